/-! the class: spread -/
abbrev spL (w h nx x : Nat) : Lt := [(6, .int (nI (x / w))), (5, .int (nI (x % w))), (4, .int (nI x)), (3, .int (nI nx)), (0, .ref 21), (1, .int (nI w)), (2, .int (nI h))]
/-- what a step of the spread keeps -/
def SK (w h : Nat) (U : Nat → Prop) (a0 : Nat) (G0 G : Gt) (f : Nat) (G' : Gt) (f' : Nat) : Prop := SI w h U a0 G0 G' f' ∧ f ≤ f' ∧ (∀ x, inL G f x → inL G' f' x) ∧ ∀ i, i < f → G' 23 i = G 23 i
theorem SK.tr {w h : Nat} {U : Nat → Prop} {a0 : Nat} {G0 A B C : Gt} {a b c : Nat} (h1 : SK w h U a0 G0 A a B b) (h2 : SK w h U a0 G0 B b C c) : SK w h U a0 G0 A a C c := ⟨h2.1, Nat.le_trans h1.2.1 h2.2.1, fun x z => h2.2.2.1 x (h1.2.2.1 x z), fun i hi => (h2.2.2.2 i (Nat.lt_of_lt_of_le hi h1.2.1)).trans (h1.2.2.2 i hi)⟩
theorem w_j1 {X : Xt} {w h : Nat} {U : Nat → Prop} {a0 x nx f : Nat} {G0 G : Gt} {Q : Qt} (hw : 0 < w) (hn : w * h ≤ 100) (hx : x < w * h) (hr : rch w h U a0 x) (hS : SI w h U a0 G0 G f) (K : ∀ G' f', SK w h U a0 G0 G f G' f' → (∀ y, 0 < x % w ∧ y + 1 = x → U y → inL G' f' y) → wp X m_Surveys_spread 49 (spL w h nx x) [] G' Q) : wp X m_Surveys_spread 36 (spL w h nx x) [] G Q := by
  have hm := Nat.mod_lt x hw
  have hm2 : x % w ≤ x := Nat.mod_le x w
  refine rn_wp (stops := [49]) 20 ?_
  refine bi (fun z => ?_) (fun z => ?_)
  · rw [← nI_0, nI_leI (by omega) (by omega)] at z
    exact K G f ⟨hS, Nat.le_refl _, fun _ q => q, fun _ _ => rfl⟩ (fun y hy => absurd hy.1 (by omega))
  · rw [← nI_0, nI_leI (by omega) (by omega)] at z
    have ha : adj w h x (x - 1) := Or.inl ⟨by omega, by omega⟩
    refine c_joinS hn (adj_lt hw hx ha) (fun q => rch_st hr q ha) hS (fun G' f' g1 g2 g3 g4 g5 => ?_) (nI_m1 (by omega))
    refine K G' f' ⟨g1, g2, g3, g4⟩ (fun y hy q => ?_)
    rw [show x - 1 = y by omega] at g5
    exact g5 q
theorem w_j2 {X : Xt} {w h : Nat} {U : Nat → Prop} {a0 x nx f : Nat} {G0 G : Gt} {Q : Qt} (hw : 0 < w) (hn : w * h ≤ 100) (hwb : w ≤ 10) (hx : x < w * h) (hr : rch w h U a0 x) (hS : SI w h U a0 G0 G f) (K : ∀ G' f', SK w h U a0 G0 G f G' f' → (∀ y, x % w + 1 < w ∧ y = x + 1 → U y → inL G' f' y) → wp X m_Surveys_spread 65 (spL w h nx x) [] G' Q) : wp X m_Surveys_spread 49 (spL w h nx x) [] G Q := by
  have hm := Nat.mod_lt x hw
  refine rn_wp (stops := [65]) 20 ?_
  refine bi (fun z => ?_) (fun z => ?_)
  · rw [nI_m1 hw, nI_leI (by omega) (by omega)] at z
    exact K G f ⟨hS, Nat.le_refl _, fun _ q => q, fun _ _ => rfl⟩ (fun y hy => absurd hy.1 (by omega))
  · rw [nI_m1 hw, nI_leI (by omega) (by omega)] at z
    have ha : adj w h x (x + 1) := Or.inr (Or.inl ⟨by omega, rfl⟩)
    refine c_joinS hn (adj_lt hw hx ha) (fun q => rch_st hr q ha) hS (fun G' f' g1 g2 g3 g4 g5 => ?_) (nI_1 x)
    refine K G' f' ⟨g1, g2, g3, g4⟩ (fun y hy q => ?_)
    rw [← hy.2] at g5
    exact g5 q
theorem w_j3 {X : Xt} {w h : Nat} {U : Nat → Prop} {a0 x nx f : Nat} {G0 G : Gt} {Q : Qt} (hw : 0 < w) (hn : w * h ≤ 100) (hx : x < w * h) (hr : rch w h U a0 x) (hS : SI w h U a0 G0 G f) (K : ∀ G' f', SK w h U a0 G0 G f G' f' → (∀ y, w ≤ x ∧ y + w = x → U y → inL G' f' y) → wp X m_Surveys_spread 78 (spL w h nx x) [] G' Q) : wp X m_Surveys_spread 65 (spL w h nx x) [] G Q := by
  have hd : x / w ≤ x := Nat.div_le_self x w
  have hp : 0 < x / w ↔ w ≤ x := by
    rw [Nat.div_pos_iff]
    exact ⟨fun z => z.2, fun z => ⟨hw, z⟩⟩
  refine rn_wp (stops := [78]) 20 ?_
  refine bi (fun z => ?_) (fun z => ?_)
  · rw [← nI_0, nI_leI (by omega) (by omega)] at z
    exact K G f ⟨hS, Nat.le_refl _, fun _ q => q, fun _ _ => rfl⟩ (fun y hy => absurd (hp.mpr hy.1) (by omega))
  · rw [← nI_0, nI_leI (by omega) (by omega)] at z
    have hle : w ≤ x := hp.mp (by omega)
    have ha : adj w h x (x - w) := Or.inr (Or.inr (Or.inl ⟨hle, by omega⟩))
    refine c_joinS hn (adj_lt hw hx ha) (fun q => rch_st hr q ha) hS (fun G' f' g1 g2 g3 g4 g5 => ?_) (pk_sub hle)
    refine K G' f' ⟨g1, g2, g3, g4⟩ (fun y hy q => ?_)
    rw [show x - w = y by omega] at g5
    exact g5 q
theorem w_j4 {X : Xt} {w h : Nat} {U : Nat → Prop} {a0 x nx f : Nat} {G0 G : Gt} {Q : Qt} (hw : 0 < w) (hh : 0 < h) (hhb : h ≤ 10) (hn : w * h ≤ 100) (hx : x < w * h) (hr : rch w h U a0 x) (hS : SI w h U a0 G0 G f) (K : ∀ G' f', SK w h U a0 G0 G f G' f' → (∀ y, x + w < w * h ∧ y = x + w → U y → inL G' f' y) → wp X m_Surveys_spread 94 (spL w h nx x) [] G' Q) : wp X m_Surveys_spread 78 (spL w h nx x) [] G Q := by
  have hd : x / w ≤ x := Nat.div_le_self x w
  have hp : x / w + 1 < h ↔ x + w < w * h := by
    have e : (x + w) / w = x / w + 1 := Nat.add_div_right x hw
    rw [← e, Nat.div_lt_iff_lt_mul hw, Nat.mul_comm]
  refine rn_wp (stops := [94]) 20 ?_
  refine bi (fun z => ?_) (fun z => ?_)
  · rw [nI_m1 hh, nI_leI (by omega) (by omega)] at z
    exact K G f ⟨hS, Nat.le_refl _, fun _ q => q, fun _ _ => rfl⟩ (fun y hy => absurd (hp.mpr hy.1) (by omega))
  · rw [nI_m1 hh, nI_leI (by omega) (by omega)] at z
    have hlt : x + w < w * h := hp.mp (by omega)
    have ha : adj w h x (x + w) := Or.inr (Or.inr (Or.inr ⟨hlt, rfl⟩))
    refine c_joinS hn (adj_lt hw hx ha) (fun q => rch_st hr q ha) hS (fun G' f' g1 g2 g3 g4 g5 => ?_) (nI_add x w)
    refine K G' f' ⟨g1, g2, g3, g4⟩ (fun y hy q => ?_)
    rw [← hy.2] at g5
    exact g5 q
/-- the first m of the list have all their neighbours in it -/
def cls (w h : Nat) (U : Nat → Prop) (G : Gt) (f m : Nat) : Prop := ∀ i, i < m → ∀ x, x < w * h → G 23 i = nI x → ∀ y, U y → adj w h x y → inL G f y
set_option maxRecDepth 4000 in
theorem w_spread {X : Xt} {w h : Nat} {U : Nat → Prop} {a0 : Nat} {G0 : Gt} {Q : Qt} (hw : 0 < w) (hh : 0 < h) (hwb : w ≤ 10) (hhb : h ≤ 10) (hn : w * h ≤ 100) (K : ∀ G f, SI w h U a0 G0 G f → cls w h U G f f → inL G f a0 → Q none G) : ∀ (z nx f : Nat) (q : Int32) (G : Gt), q = nI nx → nx + z = 100 → SI w h U a0 G0 G f → nx ≤ f → cls w h U G f nx → inL G f a0 → wp X m_Surveys_spread 2 [(3, .int q), (0, .ref 21), (1, .int (nI w)), (2, .int (nI h))] [] G Q
  | 0, nx, f, q, G, hq, hz, hS, hle, hc, h0 => by
    subst hq
    have hf := SI_f hn hS
    have e : f = nx := by omega
    subst e
    refine rn_wp (stops := [2, 36]) 60 ?_
    refine bi_t (by rw [hS.1.1]; exact Int32.le_refl _) ?_
    exact K G f hS hc h0
  | z + 1, nx, f, q, G, hq, hz, hS, hle, hc, h0 => by
    subst hq
    have hf := SI_f hn hS
    refine rn_wp (stops := [2, 36]) 60 ?_
    refine bi (fun g => ?_) (fun g => ?_)
    · rw [hS.1.1, nI_leI (by omega) (by omega)] at g
      have e : f = nx := by omega
      subst e
      exact K G f hS hc h0
    · rw [hS.1.1, nI_leI (by omega) (by omega)] at g
      refine bi_f (by rw [show (100 : Int32) = nI 100 from rfl, nI_leI (by omega) (by omega)]; omega) ?_
      obtain ⟨x, hx, ex, hU, hr⟩ := hS.2.1 nx (by omega)
      refine vi (vp_in_nI (by omega) (by omega)) ?_
      rw [nI_clamp (by omega), ex]
      refine zi (nI_ne0 hw (by omega)) ?_
      refine zi (nI_ne0 hw (by omega)) ?_
      rw [pk_rem (by omega) hw (by omega), pk_div (by omega) hw (by omega)]
      refine w_j1 hw hn hx hr hS (fun G1 f1 k1 n1 => ?_)
      refine w_j2 hw hn hwb hx hr k1.1 (fun G2 f2 k2 n2 => ?_)
      refine w_j3 hw hn hx hr k2.1 (fun G3 f3 k3 n3 => ?_)
      refine w_j4 hw hh hhb hn hx hr k3.1 (fun G4 f4 k4 n4 => ?_)
      refine rn_wp (stops := [2]) 5 ?_
      have k34 := k3.tr k4
      have k24 := k2.tr k34
      have k14 := k1.tr k24
      refine wp_pick [0, 4, 5, 6] (w_spread hw hh hwb hhb hn K z (nx + 1) f4 _ G4 (nI_1 _) (by omega) k14.1 (by have := k14.2.1; omega) (fun i hi x' hx' e' y hy ha => ?_) (k14.2.2.1 a0 h0))
      have e'' : G 23 i = nI x' := by rw [← k14.2.2.2 i (by omega)]; exact e'
      by_cases ei : i = nx
      · rw [ei, ex, nI_eq (by omega) (by omega)] at e''
        subst e''
        rcases ha with ha | ha | ha | ha
        · exact k24.2.2.1 y (n1 y ha hy)
        · exact k34.2.2.1 y (n2 y ha hy)
        · exact k4.2.2.1 y (n3 y ha hy)
        · exact n4 y ha hy
      · exact k14.2.2.1 y (hc i (by omega) x' hx' e'' y hy ha)
theorem c_spread {X : Xt} {w h : Nat} {U : Nat → Prop} {a0 f : Nat} {G0 G : Gt} {Q : Qt} (hw : 0 < w) (hh : 0 < h) (hwb : w ≤ 10) (hhb : h ≤ 10) (hn : w * h ≤ 100) (hS : SI w h U a0 G0 G f) (h0 : inL G f a0) (K : ∀ G f, SI w h U a0 G0 G f → cls w h U G f f → inL G f a0 → Q none G) : con X m_Surveys_spread [.ref 21, .int (nI w), .int (nI h)] G Q := by
  refine con_rn 5 [2] (by decide) rfl ?_
  exact w_spread hw hh hwb hhb hn K 100 0 f _ G rfl rfl hS (Nat.zero_le _) (fun i hi => absurd hi (by omega)) h0
theorem c_spread0 {X : Xt} {a b : Int32} {G : Gt} {Q : Qt} (h0 : G 21 2 = 0) (K : Q none G) : con X m_Surveys_spread [.ref 21, .int a, .int b] G Q := by
  refine con_rn 20 [] (by decide) rfl ?_
  refine bi_t (by rw [h0]; exact Int32.le_refl _) ?_
  exact K
/-- what is left when the spread is done -/
theorem SI_end {w h : Nat} {U : Nat → Prop} {a0 f : Nat} {G0 G : Gt} (hw : 0 < w) (hn : w * h ≤ 100) (hS : SI w h U a0 G0 G f) (hc : cls w h U G f f) (h0 : inL G f a0) (hU : ∀ x, U x → x < w * h) (ha0 : U a0) : ∀ x, x < w * h → (¬ G 22 x = 0 ↔ U x ∧ ¬ rch w h U a0 x) := by
  intro x hx
  rw [hS.2.2.1 x hx]
  refine and_congr_right (fun hUx => not_congr ⟨fun z => ?_, fun z => ?_⟩)
  · obtain ⟨i, h1, h2⟩ := z
    obtain ⟨x', h3, h4, h5, h6⟩ := hS.2.1 i h1
    rw [h2, nI_eq (by omega) (by omega)] at h4
    subst h4
    exact h6
  · refine (z (fun y => U y ∧ inL G f y) ⟨ha0, h0⟩ (fun u v hu hv hadj => ⟨hv, ?_⟩)).2
    obtain ⟨hu1, i, h1, h2⟩ := hu
    exact hc i h1 u (hU u hu1) h2 v hv hadj
