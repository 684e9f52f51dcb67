/-! the model: survey -/
abbrev gM (G : Gt) (A : Nat) : Nat → Int32 := fun x => G 29 (100 * A + x)
def cM (ga gb : Nat → Int32) (s : Int32) (G0 : Gt) (k : Nat) (G : Gt) : Prop := FrS G0 G ∧ ∀ x, x < k → (lsP ga gb s x → G 41 x = 0) ∧ (¬ lsP ga gb s x → G 41 x = -1)
theorem cM_put {ga gb : Nat → Int32} {s v : Int32} {G0 G : Gt} {k : Nat} (h : cM ga gb s G0 k G) (hv : (lsP ga gb s k → v = 0) ∧ (¬ lsP ga gb s k → v = -1)) : cM ga gb s G0 (k + 1) (sG G 41 (upd (G 41) k v)) := by
  refine ⟨h.1.s rfl, fun x hx => ?_⟩
  show (_ → upd (G 41) k v x = 0) ∧ (_ → upd (G 41) k v x = -1)
  by_cases q : x = k
  · subst q
    rw [pk_us]
    exact hv
  · rw [pk_un q]
    exact h.2 x (by omega)
set_option maxRecDepth 4000 in
theorem w_mc {X : Xt} {s e : Int32} {A B w h : Nat} {G0 : Gt} {Q : Qt} (hA : A < 8) (hB : B < 8) (hn : w * h ≤ 100) (K : ∀ G, cM (gM G0 A) (gM G0 B) s G0 (w * h) G → wp X m_Mo_survey 248 (svB w h e (sI (fun x => bI (lsP (gM G0 A) (gM G0 B) s x)) (w * h)) (sI (fun x => bI (hpP (gM G0 A) (gM G0 B) s x)) (w * h))) [] G Q) : ∀ (z k : Nat) (q lo he : Int32) (G : Gt), q = nI k → k + z = w * h → lo = sI (fun x => bI (lsP (gM G0 A) (gM G0 B) s x)) k → he = sI (fun x => bI (hpP (gM G0 A) (gM G0 B) s x)) k → cM (gM G0 A) (gM G0 B) s G0 k G → wp X m_Mo_survey 143 [(9, .int q), (8, .int he), (7, .int lo), (0, .ref 26), (1, .int (nI A)), (2, .int (nI B)), (3, .int (nI w)), (4, .int (nI h)), (5, .int s), (6, .int e)] [] G Q
  | 0, k, q, lo, he, G, hq, hz, hl, hh, hc => by
    subst hq
    have hk : k = w * h := by omega
    refine rn_wp (stops := [143, 248]) 80 ?_
    refine bi_t (by rw [pk_mul, hk]; exact Int32.le_refl _) ?_
    rw [hk] at hl hh hc
    subst hl
    subst hh
    exact wp_pick [3, 6, 7, 9, 2, 1] (K G hc)
  | z + 1, k, q, lo, he, G, hq, hz, hl, hh, hc => by
    subst hq
    have e29 : G 29 = G0 29 := hc.1.1 29 rfl (by decide)
    refine rn_wp (stops := [143, 248]) 80 ?_
    refine bi_f (by rw [pk_mul, nI_leI (by omega) (by omega)]; omega) ?_
    refine vi (by rw [(ixM hB (by omega)).2]; exact vp_in_nI (by omega) (by omega)) ?_
    refine vi (by rw [(ixM hA (by omega)).2]; exact vp_in_nI (by omega) (by omega)) ?_
    rw [(ixM hB (by omega)).1, (ixM hA (by omega)).1, e29]
    have nx : ∀ v l t : Int32, ((lsP (gM G0 A) (gM G0 B) s k → v = 0) ∧ (¬ lsP (gM G0 A) (gM G0 B) s k → v = -1)) → l = lo + bI (lsP (gM G0 A) (gM G0 B) s k) → t = he + bI (hpP (gM G0 A) (gM G0 B) s k) → wp X m_Mo_survey 143 [(9, .int (nI k + 1)), (8, .int t), (7, .int l), (10, .long ((gM G0 B k).toInt64 - (gM G0 A k).toInt64)), (0, .ref 26), (1, .int (nI A)), (2, .int (nI B)), (3, .int (nI w)), (4, .int (nI h)), (5, .int s), (6, .int e)] [] (sG G 41 (upd (G 41) k v)) Q := by
      intro v l t hv hl2 ht2
      refine wp_pick [0, 1, 2, 4, 5, 6, 7, 8, 9, 10] (w_mc hA hB hn K z (k + 1) _ _ _ _ (nI_1 _) (by omega) ?_ ?_ (cM_put hc hv))
      · rw [hl2, hl]
        rfl
      · rw [ht2, hh]
        rfl
    refine bi (fun g => ?_) (fun g => ?_)
    · have hl1 : ¬ lsP (gM G0 A) (gM G0 B) s k := fun y => y g
      refine vi (vp_in_nI (by omega) (by omega)) ?_
      rw [nI_clamp (by omega)]
      refine bi_t g ?_
      refine bi (fun g2 => ?_) (fun g2 => ?_)
      · have hh1 : ¬ hpP (gM G0 A) (gM G0 B) s k := fun y => y g2
        exact nx (-1) (lo + 0) (he + 0) ⟨fun y => absurd y hl1, fun _ => rfl⟩ (by rw [bI_f hl1]) (by rw [bI_f hh1])
      · have hh1 : hpP (gM G0 A) (gM G0 B) s k := g2
        exact nx (-1) (lo + 0) (he + 1) ⟨fun y => absurd y hl1, fun _ => rfl⟩ (by rw [bI_f hl1]) (by rw [bI_t hh1])
    · have hl1 : lsP (gM G0 A) (gM G0 B) s k := g
      refine vi (vp_in_nI (by omega) (by omega)) ?_
      rw [nI_clamp (by omega)]
      refine bi_f g ?_
      refine bi (fun g2 => ?_) (fun g2 => ?_)
      · have hh1 : ¬ hpP (gM G0 A) (gM G0 B) s k := fun y => y g2
        exact nx 0 (lo + 1) (he + 0) ⟨fun _ => rfl, fun y => absurd hl1 y⟩ (by rw [bI_t hl1]) (by rw [bI_f hh1])
      · have hh1 : hpP (gM G0 A) (gM G0 B) s k := g2
        exact nx 0 (lo + 1) (he + 1) ⟨fun _ => rfl, fun y => absurd hl1 y⟩ (by rw [bI_t hl1]) (by rw [bI_t hh1])
def pI (w h : Nat) (U : Nat → Prop) (G0 : Gt) (k : Nat) (G : Gt) : Prop := FrS G0 G ∧ (∀ x, x < w * h → (G 41 x = 0 ↔ Us w h U k x)) ∧ ∀ x, x < w * h → (G 41 x).toInt ≤ (pcs w h U k).1
theorem pI_MI {w h : Nat} {U : Nat → Prop} {G0 G : Gt} {k : Nat} (hn : w * h ≤ 100) (hk : k < w * h) (hkk : Us w h U k k) (h1 : pI w h U G0 k G) : MI w h (Us w h U k) k (pcs w h U k).1 G0 (sG G 41 (upd (G 41) k (nI ((pcs w h U k).1 + 1)))) 1 := by
  obtain ⟨g1, g2, g3⟩ := h1
  have hr := pcs_rng (U := U) hn k
  have hne : ¬ nI ((pcs w h U k).1 + 1) = 0 := nI_ne0 (by omega) (by omega)
  have hbig : ∀ x, x < w * h → ¬ G 41 x = nI ((pcs w h U k).1 + 1) := by
    intro x hx z
    have := g3 x hx
    rw [z, nI_toInt (by omega)] at this
    omega
  refine ⟨g1.s rfl, fun x hx => ?_, fun x hx => ?_, ?_, fun x hx => ?_, pk_us⟩
  · show upd (G 41) k _ x = 0 ↔ Us w h U k x ∧ ¬ upd (G 41) k _ x = _
    by_cases q : x = k
    · subst q
      rw [pk_us]
      exact ⟨fun z => absurd z hne, fun z => absurd rfl z.2⟩
    · rw [pk_un q, g2 x hx]
      exact ⟨fun z => ⟨z, hbig x hx⟩, fun z => z.1⟩
  · show upd (G 41) k _ x = _ → _
    by_cases q : x = k
    · subst q
      exact fun _ => ⟨hkk, rch_rf _ _ _ _⟩
    · rw [pk_un q]
      exact fun z => absurd z (hbig x hx)
  · have a1 : cP (fun x => G 41 x = 0) (w * h) = cP (fun x => upd (G 41) k (nI ((pcs w h U k).1 + 1)) x = 0) (w * h) + 1 := by
      refine cP_del (k := k) ((g2 k hk).mpr hkk) (fun z => hne (by rw [pk_us] at z; exact z)) hk (fun x hx q => ?_)
      show _ ↔ upd (G 41) k _ x = 0
      rw [pk_un q]
    have a2 : cP (fun x => G 41 x = 0) (w * h) = cP (Us w h U k) (w * h) := cP_congr (fun x hx => g2 x hx)
    show 1 + cP (fun x => upd (G 41) k (nI ((pcs w h U k).1 + 1)) x = 0) (w * h) = _
    omega
  · show (upd (G 41) k _ x).toInt ≤ _
    by_cases q : x = k
    · subst q
      rw [pk_us, nI_toInt (by omega)]
      omega
    · rw [pk_un q]
      have := g3 x hx
      omega
set_option maxRecDepth 4000 in
theorem w_mp {X : Xt} {w h : Nat} {U : Nat → Prop} {e lo he : Int32} {G0 : Gt} {Q : Qt} (hw : 0 < w) (hn : w * h ≤ 100) (hwb : w ≤ 10) (hU : ∀ x, U x → x < w * h) (K : ∀ G, FrS G0 G → wp X m_Mo_survey 472 [(10, .int (nI (pcs w h U (w * h)).2)), (9, .int (nI (pcs w h U (w * h)).1)), (6, .int e), (7, .int lo), (8, .int he)] [] G Q) : ∀ (z k : Nat) (q la pa : Int32) (G : Gt), q = nI k → k + z = w * h → la = nI (pcs w h U k).2 → pa = nI (pcs w h U k).1 → pI w h U G0 k G → wp X m_Mo_survey 257 ((11, .int q) :: (10, .int la) :: (9, .int pa) :: svB w h e lo he) [] G Q
  | 0, k, q, la, pa, G, hq, hz, hl, hp, hI => by
    subst hq
    have hk : k = w * h := by omega
    refine rn_wp (stops := [257, 472]) 40 ?_
    refine bi_t (by rw [pk_mul, hk]; exact Int32.le_refl _) ?_
    rw [hk] at hl hp
    subst hl
    subst hp
    exact wp_pick [1, 2, 6, 7, 8] (K G hI.1)
  | z + 1, k, q, la, pa, G, hq, hz, hl, hp, hI => by
    subst hq
    subst hl
    subst hp
    have hk : k < w * h := by omega
    have hr := pcs_rng (U := U) hn k
    refine rn_wp (stops := [257, 294, 472]) 40 ?_
    refine bi_f (by rw [pk_mul, nI_leI (by omega) (by omega)]; omega) ?_
    refine vi (vp_in_nI (by omega) (by omega)) ?_
    rw [nI_clamp (by omega)]
    refine bj (fun g => ?_) (fun g => ?_)
    · have hkk : ¬ Us w h U k k := fun y => g ((hI.2.1 k hk).mpr y)
      refine w_mp hw hn hwb hU K z (k + 1) _ _ _ G (nI_1 _) (by omega) (by rw [pcs_0 hkk]) (by rw [pcs_0 hkk]) ⟨hI.1, fun x hx => ?_, fun x hx => ?_⟩
      · rw [Us_0 hkk]
        exact hI.2.1 x hx
      · rw [pcs_0 hkk]
        exact hI.2.2 x hx
    · have hkk : Us w h U k k := (hI.2.1 k hk).mp g
      refine vi (vp_in_nI (by omega) (by omega)) ?_
      rw [nI_clamp (by omega), nI_1]
      have hM := pI_MI hn hk hkk hI
      refine w_mw hw hn hwb (by omega) (Us_lt hU k) hkk (fun G1 m1 hM1 hc1 => ?_) (w * h) 1 _ (cP_le _ _) hM
      have hend := MI_end hw (Us_lt hU k) hkk hM1 hc1
      obtain ⟨q0, q1, q2, q3, q4, q5⟩ := hM1
      have esz : szS w h U k = m1 := by
        have h2 : cP (fun x => G1 41 x = 0) (w * h) = cP (Us w h U (k + 1)) (w * h) := cP_congr (fun x hx => (hend x hx).trans (Us_1 hkk x).symm)
        unfold szS
        rw [← h2, ← q3]
        exact Nat.add_sub_cancel _ _
      have hm100 : m1 ≤ 100 := by
        have := cP_le (Us w h U k) (w * h)
        omega
      have nx : ∀ la' : Int32, la' = nI (if (pcs w h U k).2 < m1 then m1 else (pcs w h U k).2) → wp X m_Mo_survey 257 ((11, .int (nI k + 1)) :: (10, .int la') :: (13, .int 0) :: (12, .int (nI m1)) :: (9, .int (nI ((pcs w h U k).1 + 1))) :: svB w h e lo he) [] G1 Q := by
        intro la' hla
        refine wp_pick [0, 1, 4, 5, 6, 7, 8, 9, 10] (w_mp hw hn hwb hU K z (k + 1) _ _ _ G1 (nI_1 _) (by omega) ?_ ?_ ⟨q0, fun x hx => ?_, fun x hx => ?_⟩)
        · rw [hla, pcs_1 hkk, esz]
        · rw [pcs_1 hkk]
        · rw [Us_1 hkk]
          exact hend x hx
        · rw [pcs_1 hkk]
          have := q4 x hx
          show _ ≤ (((pcs w h U k).1 + 1 : Nat) : Int)
          omega
      refine rn_wp (stops := [257]) 20 ?_
      refine bi (fun g2 => ?_) (fun g2 => ?_)
      · rw [nI_leI (by omega) (by omega)] at g2
        exact nx _ (by rw [if_neg (by omega)])
      · rw [nI_leI (by omega) (by omega)] at g2
        exact nx _ (by rw [if_pos (by omega)])
theorem w_me {X : Xt} {e lo he la pa : Int32} {G : Gt} {Q : Qt} (K : Q (some (.int (if e = 0 then lo else if e = 1 then he else if e = 2 then pa else la))) G) : wp X m_Mo_survey 472 [(10, .int la), (9, .int pa), (6, .int e), (7, .int lo), (8, .int he)] [] G Q := by
  refine rn_wp (stops := []) 40 ?_
  refine bj (fun h0 => ?_) (fun h0 => ?_)
  · rw [if_neg h0] at K
    refine bj (fun h1 => ?_) (fun h1 => ?_)
    · rw [if_neg h1] at K
      refine bj (fun h2 => ?_) (fun h2 => ?_)
      · rw [if_neg h2] at K
        exact K
      · rw [if_pos h2] at K
        exact K
    · rw [if_pos h1] at K
      exact K
  · rw [if_pos h0] at K
    exact K
theorem hasI_0 {z n : Int32} (hn : 0 ≤ n) : hasI z 0 n ↔ n ≤ z := by
  unfold hasI
  rw [Int32.sub_zero]
  exact ⟨fun q => q.2.2, fun q => ⟨Int32.le_refl _, hn, q⟩⟩
set_option maxRecDepth 8000 in
theorem c_Mo_survey {X : Xt} {a b w h s e : Int32} {G : Gt} {Q : Qt} (h0 : G 26 0 = 0)
    (K1 : ¬ svP a b w h s e → Q (some (.int (-1000001))) G)
    (K2 : svP a b w h s e → ¬ (0 ≤ G 27 a.toNatClampNeg ∧ 0 ≤ G 27 b.toNatClampNeg) → Q (some (.int (-1000011))) (sG (sG G 26 (upd (G 26) 1 0)) 26 (upd (upd (G 26) 1 0) 1 1)))
    (K3 : svP a b w h s e → 0 ≤ G 27 a.toNatClampNeg → 0 ≤ G 27 b.toNatClampNeg → ¬ (hasI (G 28 a.toNatClampNeg) 0 (w * h) ∧ hasI (G 28 b.toNatClampNeg) 0 (w * h)) → Q (some (.int (-1000012))) (sG (sG G 26 (upd (G 26) 1 0)) 26 (upd (upd (G 26) 1 0) 1 2)))
    (K4 : svP a b w h s e → 0 ≤ G 27 a.toNatClampNeg → 0 ≤ G 27 b.toNatClampNeg → hasI (G 28 a.toNatClampNeg) 0 (w * h) → hasI (G 28 b.toNatClampNeg) 0 (w * h) → ∀ G' W H, FrS (sG G 26 (upd (G 26) 1 0)) G' → w = nI W → h = nI H → W ≤ 10 → H ≤ 10 → Q (some (.int (svV (gM G a.toNatClampNeg) (gM G b.toNatClampNeg) s W H e))) G') : con X m_Mo_survey [.ref 26, .int a, .int b, .int w, .int h, .int s, .int e] G Q := by
  refine con_rm 120 [143] (by decide) rfl (by decide +kernel) h0 ?_
  refine c_isSheet (bib (fun g => K1 (fun z => g z.1)) (fun ha => ?_))
  refine c_isSheet (bib (fun g => K1 (fun z => g z.2.1)) (fun hb => ?_))
  refine c_in 1 10 rfl rfl (bib (fun g => K1 (fun z => g z.2.2.1)) (fun hw => ?_))
  refine c_in 1 10 rfl rfl (bib (fun g => K1 (fun z => g z.2.2.2.1)) (fun hh => ?_))
  refine c_in 1 1000 rfl rfl (bib (fun g => K1 (fun z => g z.2.2.2.2.1)) (fun hs => ?_))
  refine c_in 0 3 rfl rfl (bjb (fun he => ?_) (fun g => K1 (fun z => g z.2.2.2.2.2)))
  have hp : svP a b w h s e := ⟨ha, hb, hw, hh, hs, he⟩
  obtain ⟨W, W0, W10, eW⟩ := tenN hw
  obtain ⟨H, H0, H10, eH⟩ := tenN hh
  have hn : W * H ≤ 100 := Nat.mul_le_mul W10 H10
  have hwh : 0 ≤ w * h := by rw [eW, eH, pk_mul]; exact nI_pos' (by omega)
  refine vi (sN ha).2 (bi (fun g => ?_) (fun m1 => ?_))
  · refine c_Mfound ?_
    exact K2 hp (fun z => Int32.not_lt.mpr z.1 g)
  refine vi (sN hb).2 (bi (fun m2 => ?_) (fun g => ?_))
  · have m1 : 0 ≤ G 27 a.toNatClampNeg := Int32.not_lt.mp m1
    have m2 : 0 ≤ G 27 b.toNatClampNeg := m2
    refine vi (sN ha).2 (bi (fun g => ?_) (fun i1 => ?_))
    · refine c_Mfound ?_
      exact K3 hp m1 m2 (fun z => Int32.not_lt.mpr ((hasI_0 hwh).mp z.1) g)
    · have i1 : hasI (G 28 a.toNatClampNeg) 0 (w * h) := (hasI_0 hwh).mpr (Int32.not_lt.mp i1)
      refine vi (sN hb).2 (bi (fun i2 => ?_) (fun g => ?_))
      · have i2 : hasI (G 28 b.toNatClampNeg) 0 (w * h) := (hasI_0 hwh).mpr i2
        have k4 := K4 hp m1 m2 i1 i2
        obtain ⟨ea, -, -⟩ := toN ha.1
        obtain ⟨eb, -, -⟩ := toN hb.1
        have hA := (sN ha).1
        have hB := (sN hb).1
        clear K1 K2 K3 K4 m1 m2 i1 i2 hwh hp ha hb
        generalize a.toNatClampNeg = A at *
        generalize b.toNatClampNeg = B at *
        subst ea
        subst eb
        subst eW
        subst eH
        refine w_mc (G0 := sG G 26 (upd (G 26) 1 0)) hA hB hn (fun G1 c1 => ?_) (W * H) 0 _ _ _ _ rfl (by omega) rfl rfl ⟨FrS.rf _, fun x hx => absurd hx (by omega)⟩
        refine rn_wp (stops := [257]) 10 ?_
        refine w_mp (U := svU (gM G A) (gM G B) s (W * H)) (G0 := sG G 26 (upd (G 26) 1 0)) W0 hn W10 (fun x hx => hx.1) (fun G2 f2 => ?_) (W * H) 0 _ _ _ _ rfl (by omega) rfl rfl ⟨c1.1, fun x hx => ?_, fun x hx => ?_⟩
        · refine w_me ?_
          exact k4 G2 W H f2 rfl rfl W10 H10
        · by_cases q : lsP (gM G A) (gM G B) s x
          · exact ⟨fun _ => ⟨hx, q⟩, fun _ => (c1.2 x hx).1 q⟩
          · refine ⟨fun y => ?_, fun y => absurd y.2 q⟩
            rw [(c1.2 x hx).2 q] at y
            exact absurd y (by decide)
        · by_cases q : lsP (gM G A) (gM G B) s x
          · rw [(c1.2 x hx).1 q]
            exact Int.le_refl _
          · rw [(c1.2 x hx).2 q]
            show (-1 : Int) ≤ 0
            decide
      · refine c_Mfound ?_
        exact K3 hp m1 m2 (fun z => g ((hasI_0 hwh).mp z.2))
  · refine c_Mfound ?_
    exact K2 hp (fun z => g z.2)
theorem svV_congr {ga gb ga' gb' : Nat → Int32} {s e : Int32} {w h : Nat} (h1 : ∀ x, x < w * h → ga x = ga' x) (h2 : ∀ x, x < w * h → gb x = gb' x) : svV ga gb s w h e = svV ga' gb' s w h e := by
  have e1 : sI (fun x => bI (lsP ga gb s x)) (w * h) = sI (fun x => bI (lsP ga' gb' s x)) (w * h) := sI_congr _ (fun x hx => bI_congr (by unfold lsP; rw [h1 x hx, h2 x hx]))
  have e2 : sI (fun x => bI (hpP ga gb s x)) (w * h) = sI (fun x => bI (hpP ga' gb' s x)) (w * h) := sI_congr _ (fun x hx => bI_congr (by unfold hpP; rw [h1 x hx, h2 x hx]))
  have e3 : svU ga gb s (w * h) = svU ga' gb' s (w * h) := by
    funext x
    refine propext (and_congr_right (fun hx => ?_))
    unfold lsP
    rw [h1 x hx, h2 x hx]
  unfold svV
  rw [e1, e2, e3]
theorem p_survey {X : Xt} {G : Gt} (hI : Inv G) {a b w h s e : Int32} : pair X m_SW_survey m_Mo_survey [.int a, .int b, .int w, .int h, .int s, .int e] G := by
  obtain ⟨hW, hT, hS, hP, hs, h0⟩ := id hI
  have up : ∀ s : Int32, 0 ≤ s ∧ s ≤ 7 → ¬ G 4 s.toNatClampNeg = -1 → 0 ≤ G 27 s.toNatClampNeg ∧ G 28 s.toNatClampNeg = G 4 s.toNatClampNeg := by
    intro s h h2
    have hh := IS_at hS (sN h).1
    have h5 := Decidable.byContradiction fun z => h2 (hh.1.mpr z)
    exact ⟨h5, (hh.2 h5).1⟩
  refine c_SW_survey (fun g => pq ?_) (fun g g2 => pq ?_) (fun g m1 m2 g2 => pq ?_) (fun g m1 m2 i1 i2 G' W H hF eW eH W0 H0 W10 H10 hn => pq ?_)
  · exact c_Mo_survey h0 (fun _ => ⟨rfl, hI⟩) (fun z => absurd z g) (fun z => absurd z g) (fun z => absurd z g)
  · have hn : ¬ (0 ≤ G 27 a.toNatClampNeg ∧ 0 ≤ G 27 b.toNatClampNeg) := fun z => by
      rcases g2 with h2 | h2
      · exact (IS_at hS (sN g.1).1).1.mp h2 z.1
      · exact (IS_at hS (sN g.2.1).1).1.mp h2 z.2
    exact c_Mo_survey h0 (fun z => absurd g z) (fun _ _ => ⟨rfl, ⟨hW, hT, hS, hP, rfl, h0⟩⟩) (fun _ z1 z2 => absurd ⟨z1, z2⟩ hn) (fun _ z1 z2 => absurd ⟨z1, z2⟩ hn)
  · obtain ⟨a1, a2⟩ := up a g.1 m1
    obtain ⟨b1, b2⟩ := up b g.2.1 m2
    refine c_Mo_survey h0 (fun z => absurd g z) (fun _ z => absurd ⟨a1, b1⟩ z) (fun _ _ _ _ => ⟨rfl, ⟨hW, hT, hS, hP, rfl, h0⟩⟩) (fun _ _ _ z1 z2 => ?_)
    have z1 : hasI (G 28 a.toNatClampNeg) 0 (w * h) := z1
    have z2 : hasI (G 28 b.toNatClampNeg) 0 (w * h) := z2
    rw [a2] at z1
    rw [b2] at z2
    exact absurd ⟨z1, z2⟩ g2
  · obtain ⟨a1, a2⟩ := up a g.1 m1
    obtain ⟨b1, b2⟩ := up b g.2.1 m2
    have f27 : G' 27 = G 27 := hF.1 27 rfl (by decide)
    have f28 : G' 28 = G 28 := hF.1 28 rfl (by decide)
    have f29 : G' 29 = G 29 := hF.1 29 rfl (by decide)
    have h0' : G' 26 0 = 0 := by rw [hF.2 0 (by decide)]; exact h0
    have hI' := Inv_fr hF hI
    have a1' : 0 ≤ G' 27 a.toNatClampNeg := by rw [f27]; exact a1
    have b1' : 0 ≤ G' 27 b.toNatClampNeg := by rw [f27]; exact b1
    have i1' : hasI (G' 28 a.toNatClampNeg) 0 (w * h) := by rw [f28, a2]; exact i1
    have i2' : hasI (G' 28 b.toNatClampNeg) 0 (w * h) := by rw [f28, b2]; exact i2
    refine c_Mo_survey (G := sG G' 0 (upd (G' 0) 7 0)) h0' (fun z => absurd g z) (fun _ z => absurd ⟨a1', b1'⟩ z) (fun _ _ _ z => absurd ⟨i1', i2'⟩ z) (fun _ _ _ _ _ G'' W' H' hF' eW' eH' W10' H10' => ⟨?_, Inv_fr hF' (Inv_st hI' 0)⟩)
    have q1 : W = W' := by rw [eW, nI_eq (by omega) (by omega)] at eW'; exact eW'
    have q2 : H = H' := by rw [eH, nI_eq (by omega) (by omega)] at eH'; exact eH'
    subst q1
    subst q2
    have hwh : w * h = nI (W * H) := by rw [eW, eH, pk_mul]
    have hwh0 : 0 ≤ w * h := by rw [hwh]; exact nI_pos' (by omega)
    have r1 := le32.mp ((hasI_0 hwh0).mp i1)
    have r2 := le32.mp ((hasI_0 hwh0).mp i2)
    rw [hwh, nI_toInt (by omega)] at r1 r2
    have t1 := ((IS_at hS (sN g.1).1).2 a1).2.2.2
    have t2 := ((IS_at hS (sN g.2.1).1).2 b1).2.2.2
    show some (Value.int (svV (gM G' a.toNatClampNeg) (gM G' b.toNatClampNeg) s W H e)) = some (Value.int (svV (gX G a) (gX G b) s W H e))
    have e1 : gM G' a.toNatClampNeg = gM G a.toNatClampNeg := by unfold gM; rw [f29]
    have e2 : gM G' b.toNatClampNeg = gM G b.toNatClampNeg := by unfold gM; rw [f29]
    rw [e1, e2, svV_congr (ga := gM G a.toNatClampNeg) (gb := gM G b.toNatClampNeg) (ga' := gX G a) (gb' := gX G b) (fun x hx => (t1 x (by omega)).symm) (fun x hx => (t2 x (by omega)).symm)]
