/-! design: the class -/
def ovF (f : Nat → Int32) (N c : Nat) : Int32 := sI (fun k => ovv (f (2 * k)) (f (2 * k + 1)) (nI c)) N
def haF (f : Nat → Int32) (N : Nat) (sl : Int32) (d : Nat) : Int32 := sI (fun k => hv (f (2 * k)) (nI d) sl) N
abbrev fstP (P : Nat → Prop) (k : Nat) : Prop := 1 ≤ k ∧ P k ∧ ∀ j, 1 ≤ j → j < k → ¬ P j
theorem fst_u {P : Nat → Prop} {a b : Nat} (h : fstP P a) (h2 : fstP P b) : a = b := by
  rcases Nat.lt_trichotomy a b with z | z | z
  · exact absurd h.2.1 (h2.2.2 a h.1 z)
  · exact z
  · exact absurd h2.2.1 (h.2.2 b h2.1 z)
/-- the hours as the class has read them -/
def hrX (G : Gt) (f : Nat → Int32) (N : Nat) : Prop := N ≤ 48 ∧ G 18 2 = nI N ∧ (∀ k, k < N → G 19 k = f (2 * k) ∧ G 20 k = f (2 * k + 1)) ∧ spP f 200 100 N
theorem c_overX {X : Xt} {f : Nat → Int32} {N c : Nat} {G : Gt} {Q : Qt} (h : hrX G f N) (K : Q (some (.int (ovF f N c))) G) : con X m_Hours_over [.ref 18, .int (nI c)] G Q := by
  refine c_over h.1 h.2.1 (Qi K (sI_congr _ (fun k hk => ?_)))
  rw [(h.2.2.1 k hk).1, (h.2.2.1 k hk).2]
theorem c_harmX {X : Xt} {f : Nat → Int32} {N d : Nat} {sl : Int32} {G : Gt} {Q : Qt} (h : hrX G f N) (hd : d ≤ 40) (hs : 0 ≤ sl ∧ sl ≤ 60) (K : Q (some (.int (haF f N sl d))) G) : con X m_Hours_harm [.ref 18, .int (nI d), .int sl] G Q := by
  refine c_harm h.1 h.2.1 (fun k hk => ?_) ⟨nI_pos' (by omega), ?_⟩ hs (Qi K (sI_congr _ (fun k hk => ?_)))
  · rw [(h.2.2.1 k hk).1]
    exact (h.2.2.2 k hk).1
  · rw [show (40 : Int32) = nI 40 from rfl, nI_leI (by omega) (by omega)]; exact hd
  · rw [(h.2.2.1 k hk).1]
theorem w_lCrest {X : Xt} {f : Nat → Int32} {N : Nat} {ov : Int32} {G : Gt} {Q : Qt} (h : hrX G f N) (K1 : ∀ c, c ≤ 100 → fstP (fun c => ovF f N c ≤ ov) c → Q (some (.int (nI c))) G) (K2 : (∀ c, 1 ≤ c → c ≤ 100 → ¬ ovF f N c ≤ ov) → Q (some (.int (-1000000))) G) : ∀ (m k : Nat) (c : Int32), c = nI k → k + m = 101 → 1 ≤ k → (∀ j, 1 ≤ j → j < k → ¬ ovF f N j ≤ ov) → wp X m_Hours_leastCrest 2 [(2, .int c), (0, .ref 18), (1, .int ov)] [] G Q
  | 0, k, c, hc, hk, h1, hj => by
    subst hc
    have hk : k = 101 := by omega
    subst hk
    refine rn_wp (stops := [2]) 40 ?_
    refine bi_t (by decide) ?_
    exact K2 (fun c a b => hj c a (by omega))
  | m + 1, k, c, hc, hk, h1, hj => by
    subst hc
    refine rn_wp (stops := [2]) 40 ?_
    refine bi_f (by rw [show (100 : Int32) = nI 100 from rfl, nI_ltI (by omega) (by omega)]; omega) ?_
    refine c_overX h ?_
    refine bi (fun z => ?_) (fun z => ?_)
    · refine w_lCrest h K1 K2 m (k + 1) _ (nI_1 _) (by omega) (by omega) (fun j a b => ?_)
      rcases Nat.lt_succ_iff_lt_or_eq.mp b with q | q
      · exact hj j a q
      · rw [q]; exact Int32.not_le.mpr z
    · exact K1 k (by omega) ⟨h1, Int32.not_lt.mp z, hj⟩
theorem c_lCrest {X : Xt} {f : Nat → Int32} {N : Nat} {ov : Int32} {G : Gt} {Q : Qt} (h : hrX G f N) (K1 : ∀ c, c ≤ 100 → fstP (fun c => ovF f N c ≤ ov) c → Q (some (.int (nI c))) G) (K2 : (∀ c, 1 ≤ c → c ≤ 100 → ¬ ovF f N c ≤ ov) → Q (some (.int (-1000000))) G) : con X m_Hours_leastCrest [.ref 18, .int ov] G Q := by
  refine con_rn 10 [2] (by decide) rfl ?_
  exact w_lCrest h K1 K2 100 1 _ rfl rfl (by omega) (fun j a b => by omega)
theorem w_lSize {X : Xt} {f : Nat → Int32} {N : Nat} {sl ha : Int32} {G : Gt} {Q : Qt} (h : hrX G f N) (hs : 0 ≤ sl ∧ sl ≤ 60) (K1 : ∀ c, c ≤ 39 → fstP (fun c => haF f N sl c ≤ ha) c → Q (some (.int (nI c))) G) (K2 : (∀ c, 1 ≤ c → c ≤ 39 → ¬ haF f N sl c ≤ ha) → Q (some (.int (-1000000))) G) : ∀ (m k : Nat) (c : Int32), c = nI k → k + m = 40 → 1 ≤ k → (∀ j, 1 ≤ j → j < k → ¬ haF f N sl j ≤ ha) → wp X m_Hours_leastBlockSize 2 [(3, .int c), (0, .ref 18), (1, .int ha), (2, .int sl)] [] G Q
  | 0, k, c, hc, hk, h1, hj => by
    subst hc
    have hk : k = 40 := by omega
    subst hk
    refine rn_wp (stops := [2]) 40 ?_
    refine bi_t (by decide) ?_
    exact K2 (fun c a b => hj c a (by omega))
  | m + 1, k, c, hc, hk, h1, hj => by
    subst hc
    refine rn_wp (stops := [2]) 40 ?_
    refine bi_f (by rw [show (39 : Int32) = nI 39 from rfl, nI_ltI (by omega) (by omega)]; omega) ?_
    refine c_harmX h (by omega) hs ?_
    refine bi (fun z => ?_) (fun z => ?_)
    · refine w_lSize h hs K1 K2 m (k + 1) _ (nI_1 _) (by omega) (by omega) (fun j a b => ?_)
      rcases Nat.lt_succ_iff_lt_or_eq.mp b with q | q
      · exact hj j a q
      · rw [q]; exact Int32.not_le.mpr z
    · exact K1 k (by omega) ⟨h1, Int32.not_lt.mp z, hj⟩
theorem c_lSize {X : Xt} {f : Nat → Int32} {N : Nat} {sl ha : Int32} {G : Gt} {Q : Qt} (h : hrX G f N) (hs : 0 ≤ sl ∧ sl ≤ 60) (K1 : ∀ c, c ≤ 39 → fstP (fun c => haF f N sl c ≤ ha) c → Q (some (.int (nI c))) G) (K2 : (∀ c, 1 ≤ c → c ≤ 39 → ¬ haF f N sl c ≤ ha) → Q (some (.int (-1000000))) G) : con X m_Hours_leastBlockSize [.ref 18, .int ha, .int sl] G Q := by
  refine con_rn 10 [2] (by decide) rfl ?_
  exact w_lSize h hs K1 K2 39 1 _ rfl rfl (by omega) (fun j a b => by omega)
def dvF (sl : Int32) (c d : Nat) (a : Int32) : Int32 := if a = 0 then nI c else if a = 1 then nI d * nI d * nI d else nI c * nI c * sl + nI d * nI d * nI d / 10
/-- there is none -/
abbrev noD (f : Nat → Int32) (N : Nat) (sl ha ov : Int32) : Prop := (∀ c, 1 ≤ c → c ≤ 100 → ¬ ovF f N c ≤ ov) ∨ (∀ c, 1 ≤ c → c ≤ 39 → ¬ haF f N sl c ≤ ha)
theorem c_leastDesign {X : Xt} {f : Nat → Int32} {N : Nat} {ha ov a : Int32} {G : Gt} {Q : Qt} (h : hrX G f N) (hs : 0 ≤ G 6 2 ∧ G 6 2 ≤ 60) (ha2 : 0 ≤ a ∧ a ≤ 2) (K1 : ∀ c d, c ≤ 100 → d ≤ 39 → fstP (fun c => ovF f N c ≤ ov) c → fstP (fun c => haF f N (G 6 2) c ≤ ha) d → Q (some (.int (dvF (G 6 2) c d a))) G) (K2 : noD f N (G 6 2) ha ov → Q (some (.int (-1000000))) G) : con X m_SW_leastDesign [.ref 0, .int ha, .int ov, .int a] G Q := by
  refine con_rn 80 [] (by decide) rfl ?_
  refine c_measure (by decide) ?_
  rw [cl_2]
  have nn : ∀ c : Nat, c ≤ 100 → ¬ nI c = -1000000 := by
    intro c hc z
    rw [eq32, nI_toInt (by omega)] at z
    rw [show (-1000000 : Int32).toInt = -1000000 from rfl] at z
    omega
  refine c_lCrest h (fun c c1 c2 => ?_) (fun hno => ?_)
  · refine c_lSize h hs (fun d d1 d2 => ?_) (fun hno => ?_)
    · refine bi_f (nn c c1) ?_
      refine bj_f (nn d (by omega)) ?_
      have k1 := K1 c d c1 d1 c2 d2
      unfold dvF at k1
      refine bi (fun z => ?_) (fun z => ?_)
      · have z : a = 0 := eq32.mpr z
        rw [if_pos z] at k1
        exact k1
      · refine bi (fun z2 => ?_) (fun z2 => ?_)
        · have z2 : a = 1 := eq32.mpr z2
          rw [if_neg (fun q => z (by rw [q]; rfl)), if_pos z2] at k1
          exact k1
        · refine zi (by decide) ?_
          rw [if_neg (fun q => z (by rw [q]; rfl)), if_neg (fun q => z2 (by rw [q]; rfl))] at k1
          exact k1
    · refine bi_f (nn c c1) ?_
      refine bj_t rfl ?_
      exact K2 (Or.inr hno)
  · refine c_lSize h hs (fun d d1 d2 => ?_) (fun hno2 => ?_)
    · refine bi_t rfl ?_
      exact K2 (Or.inl hno)
    · refine bi_t rfl ?_
      exact K2 (Or.inl hno)
abbrev dsP (s n ha ov a : Int32) : Prop := (0 ≤ s ∧ s ≤ 7) ∧ (1 ≤ n ∧ n ≤ 48) ∧ (0 ≤ ha ∧ ha ≤ 1000000) ∧ (0 ≤ ov ∧ ov ≤ 1000000) ∧ 0 ≤ a ∧ a ≤ 2
set_option maxRecDepth 4000 in
theorem c_SW_design {X : Xt} {s i n ha ov a : Int32} {G : Gt} {Q : Qt} (hz : 0 ≤ s ∧ s ≤ 7 → ¬ G 4 s.toNatClampNeg = -1 → 0 ≤ G 4 s.toNatClampNeg ∧ G 4 s.toNatClampNeg ≤ 100) (hm : msOK (G 6))
    (K1 : ¬ dsP s n ha ov a → Q (some (.int (-1000001))) G)
    (K2 : dsP s n ha ov a → ¬ fnd (G 4 s.toNatClampNeg) i (2 * n) = 0 → Q (some (.int (-1000010 - fnd (G 4 s.toNatClampNeg) i (2 * n)))) (sG G 0 (upd (G 0) 7 (fnd (G 4 s.toNatClampNeg) i (2 * n)))))
    (K3 : dsP s n ha ov a → fnd (G 4 s.toNatClampNeg) i (2 * n) = 0 → ∀ x y : Nat → Int32, ¬ spP (fX G s i.toNatClampNeg) 200 100 n.toNatClampNeg → Q (some (.int (-1000001))) (sG (sG G 19 x) 20 y))
    (K4 : dsP s n ha ov a → fnd (G 4 s.toNatClampNeg) i (2 * n) = 0 → ∀ x y z : Nat → Int32, spP (fX G s i.toNatClampNeg) 200 100 n.toNatClampNeg → noD (fX G s i.toNatClampNeg) n.toNatClampNeg (G 6 2) ha ov → Q (some (.int (-1000000))) (sG (sG (sG (sG G 19 x) 20 y) 18 z) 0 (upd (G 0) 7 0)))
    (K5 : dsP s n ha ov a → fnd (G 4 s.toNatClampNeg) i (2 * n) = 0 → ∀ x y z : Nat → Int32, spP (fX G s i.toNatClampNeg) 200 100 n.toNatClampNeg → ∀ c d, c ≤ 100 → d ≤ 39 → fstP (fun c => ovF (fX G s i.toNatClampNeg) n.toNatClampNeg c ≤ ov) c → fstP (fun c => haF (fX G s i.toNatClampNeg) n.toNatClampNeg (G 6 2) c ≤ ha) d → Q (some (.int (dvF (G 6 2) c d a))) (sG (sG (sG (sG G 19 x) 20 y) 18 z) 0 (upd (G 0) 7 0))) : con X m_SW_design [.ref 0, .int s, .int i, .int n, .int ha, .int ov, .int a] G Q := by
  refine con_rn 80 [] (by decide) rfl ?_
  refine c_isNumber (bib (fun h => K1 (fun z => h z.1)) (fun hs => ?_))
  refine c_within (bib (fun h => K1 (fun z => h z.2.1)) (fun hn => ?_))
  refine c_within (bib (fun h => K1 (fun z => h z.2.2.1)) (fun h3 => ?_))
  refine c_within (bib (fun h => K1 (fun z => h z.2.2.2.1)) (fun h4 => ?_))
  refine c_within (bjb (fun ha => ?_) (fun h => K1 (fun z => h z.2.2.2.2)))
  have hst : dsP s n _ ov a := ⟨hs, hn, h3, h4, ha⟩
  have h48 := (twoS hn).2.2.1
  refine c_readHours hs hn (hz hs) (fun h => ?_) (fun h x y hsp => ?_) (fun h x y hsp hab => ?_)
  · refine bi_f (fnd_ne _ _ _) ?_
    exact K2 hst h
  · refine bi_f (by decide) ?_
    exact K3 hst h x y hsp
  · refine bi_t rfl ?_
    refine c_leastDesign (f := fX G s i.toNatClampNeg) (N := n.toNatClampNeg) ⟨h48, rfl, hab, hsp⟩ ⟨Int32.le_trans (by decide) hm.2.2.1.1, hm.2.2.1.2⟩ ha (fun c d c1 d1 c2 d2 => ?_) (fun hno => ?_)
    · refine c_fine ?_
      exact K5 hst h x y _ hsp c d c1 d1 c2 d2
    · refine c_fine ?_
      exact K4 hst h x y _ hsp hno
