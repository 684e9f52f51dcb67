/-! what holds between both, and what a pair of calls must do -/
def IW (ly ly' : Int32) (ms ms' th th' w w' : Nat → Int32) : Prop := ly = ly' ∧ ms = ms' ∧ th = th' ∧ w = w' ∧ lyOK ly ∧ msOK ms ∧ (∀ j : Nat, (j : Int) < ly.toInt → (1 ≤ th j ∧ th j ≤ 10) ∧ 1 ≤ w j ∧ w j ≤ 60000)
def IT (tr tr' : Nat → Int32) (t t' : Int32) : Prop := tr = tr' ∧ t = t' ∧ 0 ≤ t ∧ t ≤ 16
def IS (it ln sz ln' mn' it' : Nat → Int32) : Prop := ∀ s : Nat, s < 8 → (sz s = -1 ∧ ln' s = -1) ∨ ((0 ≤ sz s ∧ sz s ≤ 100) ∧ (0 ≤ ln s ∧ ln s ≤ 2) ∧ ln' s = ln s ∧ mn' s = sz s ∧ ∀ k : Nat, (k : Int) < (sz s).toInt → it (100 * s + k) = it' (100 * s + k))
/-- how many of n places are taken -/
def cnt (f : Nat → Int32) : Nat → Nat
  | 0 => 0
  | n + 1 => cnt f n + (if f n = 0 then 0 else 1)
/-- the blocks: those of the places, none elsewhere -/
def IP (li : Nat → Int32) (n : Int32) (ro : Nat → Int32) : Prop := (∀ r p : Nat, r < 8 → p < 12 → (li (12 * r + p) = 0 ∨ li (12 * r + p) = 1)) ∧ (∀ r : Nat, r < 8 → 0 ≤ (ro r).toInt ∧ (ro r).toInt < 2 ^ (12 - r)) ∧ (∀ r p : Nat, r < 8 → p < 12 → (li (12 * r + p) = 1 ↔ (ro r).toInt.toNat.testBit p = true)) ∧ n = nI (cnt li 96)
def Inv (G : Gt) : Prop := IW (G 5 3) (G 26 6) (G 6) (G 30) (G 7) (G 31) (G 8) (G 32) ∧ IT (G 25) (G 42) (G 24 1) (G 26 20) ∧ IS (G 2) (G 3) (G 4) (G 27) (G 28) (G 29) ∧ IP (G 15) (G 14 3) (G 37) ∧ G 0 7 = G 26 1 ∧ G 26 0 = 0
theorem con_mono {X : Xt} {mi : Nat} {av : List Value} {G : Gt} {Q Q' : Qt} (h : con X mi av G Q) (hq : ∀ r G', Q r G' → Q' r G') : con X mi av G Q' := by
  intro E l sz
  refine MetFree.mono (h E l sz) (fun _ _ z => z) (fun _ _ _ _ _ z => z) ?_
  rintro a st o t - ⟨⟨⟨r, G', h1, h2, h3, h4⟩, h5⟩, h6⟩
  exact ⟨⟨⟨r, G', h1, h2, hq r G' h3, h4⟩, h5⟩, h6⟩
/-- a pair of calls: both answer alike, and the relation holds behind them -/
def pair (X : Xt) (mx mm : Nat) (as : List Value) (G : Gt) : Prop := con X mx (.ref 0 :: as) G (fun r1 G1 => ∃ v, r1 = some (.int v) ∧ con X mm (.ref 26 :: as) G1 (fun r2 G2 => r2 = some (.int v) ∧ Inv G2))
theorem pq {X : Xt} {mm : Nat} {as : List Value} {G1 : Gt} {v : Int32} (h : con X mm (.ref 26 :: as) G1 (fun r2 G2 => r2 = some (.int v) ∧ Inv G2)) : (fun (r1 : Option Value) (G1 : Gt) => ∃ v, r1 = some (.int v) ∧ con X mm (.ref 26 :: as) G1 (fun r2 G2 => r2 = some (.int v) ∧ Inv G2)) (some (.int v)) G1 := ⟨v, rfl, h⟩
/-- a public method of the model begins with thrown = 0 -/
noncomputable def pre0 (mi : Nat) (stops : List Nat) : Bool := match look (iT mi) 0, look (iT mi) 1, look (iT mi) 2 with
  | some (_, .aload_n k, 1, _), some (_, .iconst _, 2, _, _, v, _), some (_, .putfield _, 5, 9, 0, _) => decide (k = 0) && decide (v = 0) && !stops.contains 1 && !stops.contains 2 && !stops.contains 5
  | _, _, _ => false
set_option maxHeartbeats 2000000 in
theorem con_rm {X : Xt} {mi : Nat} {as : List Value} {G : Gt} {Q : Qt} (n : Nat) (stops : List Nat) (hlt : mi < 174) (hl : Nat.ble (lg_sl (.ref 26 :: as)).length (mL mi) = true) (hp : pre0 mi stops = true) (h0 : G 26 0 = 0) (h : rn X mi stops Q n 5 (lv_args 0 (.ref 26 :: as)) [] G) : con X mi (.ref 26 :: as) G Q := by
  refine con_rn (n + 3) stops hlt hl ?_
  unfold pre0 at hp
  split at hp
  · rename_i k z1 v z2 z3 z4 z5 z6 q1 q2 q3
    simp only [Bool.and_eq_true, Bool.not_eq_true', decide_eq_true_eq] at hp
    obtain ⟨⟨⟨⟨rfl, rfl⟩, h1⟩, h2⟩, h5⟩ := hp
    have step : ∀ k pc L st G, rn X mi stops Q (k + 1) pc L st G = (match look (iT mi) pc with
      | some (_, ins, nxt, a, b, v, w, ts) => stp X mi ins nxt a b v w ts L st G Q (fun pc L st G => match stops.contains pc with
        | true => wp X mi pc L st G Q
        | false => rn X mi stops Q k pc L st G)
      | none => False) := fun _ _ _ _ _ => rfl
    rw [step (n + 2), q1]
    show (match stops.contains 1 with
      | true => wp X mi 1 (lv_args 0 (.ref 26 :: as)) [.ref 26] G Q
      | false => rn X mi stops Q (n + 2) 1 (lv_args 0 (.ref 26 :: as)) [.ref 26] G)
    rw [h1]
    show rn X mi stops Q (n + 2) 1 (lv_args 0 (.ref 26 :: as)) [.ref 26] G
    rw [step (n + 1), q2]
    show (match stops.contains 2 with
      | true => wp X mi 2 (lv_args 0 (.ref 26 :: as)) [.int 0, .ref 26] G Q
      | false => rn X mi stops Q (n + 1) 2 (lv_args 0 (.ref 26 :: as)) [.int 0, .ref 26] G)
    rw [h2]
    show rn X mi stops Q (n + 1) 2 (lv_args 0 (.ref 26 :: as)) [.int 0, .ref 26] G
    rw [step n, q3]
    show (match stops.contains 5 with
      | true => wp X mi 5 (lv_args 0 (.ref 26 :: as)) [] (sG G 26 (upd (G 26) 0 0)) Q
      | false => rn X mi stops Q n 5 (lv_args 0 (.ref 26 :: as)) [] (sG G 26 (upd (G 26) 0 0)))
    rw [h5, T_id h0]
    exact h
  · cases hp
theorem p_status {X : Xt} {G : Gt} (hI : Inv G) : pair X m_SW_status m_Mo_status [] G := by
  obtain ⟨hW, hT, hS, hP, hs, h0⟩ := id hI
  refine con_rn 40 [] (by decide) rfl ?_
  repeat' first | refine bib (fun h => ?_) (fun h => ?_) | refine bjb (fun h => ?_) (fun h => ?_) | refine bi (fun h => ?_) (fun h => ?_) | refine bj (fun h => ?_) (fun h => ?_) | refine vi (inI (by decide) (by decide)) ?_ | refine vi ?_ ?_ | refine zi (by decide) ?_ | refine zi ?_ ?_ | refine ni rfl ?_ | refine ni (bI_nar _) ?_
  refine pq ?_
  refine con_rm 40 [] (by decide) rfl (by decide +kernel) h0 ?_
  repeat' first | refine bib (fun h => ?_) (fun h => ?_) | refine bjb (fun h => ?_) (fun h => ?_) | refine bi (fun h => ?_) (fun h => ?_) | refine bj (fun h => ?_) (fun h => ?_) | refine vi (inI (by decide) (by decide)) ?_ | refine vi ?_ ?_ | refine zi (by decide) ?_ | refine zi ?_ ?_ | refine ni rfl ?_ | refine ni (bI_nar _) ?_
  exact ⟨by rw [hs], hI⟩
theorem p_trace {X : Xt} {G : Gt} (hI : Inv G) {i : Int32} : pair X m_SW_trace m_Mo_trace [.int i] G := by
  obtain ⟨hW, ⟨t1, t2, t3, t4⟩, hS, hP, hs, h0⟩ := id hI
  have e0 : 0 ≤ (G 24 1).toInt := by simpa using le32.mp t3
  have e1 : (G 24 1).toInt ≤ 16 := by simpa using le32.mp t4
  have e2 : (G 24 1 - 1).toInt = (G 24 1).toInt - 1 := by
    rw [subI (by simp; omega) (by simp; omega)]; simp
  have hin : 0 ≤ i ∧ i ≤ G 24 1 - 1 → vp_in i 16 := fun h => inI (by simpa using le32.mp h.1) (by have := le32.mp h.2; omega)
  have key : ∀ {Q : Qt}, Q (some (.int (if 0 ≤ i ∧ i ≤ G 24 1 - 1 then G 25 i.toNatClampNeg else -1000000))) G → con X m_Asks_traced [.ref 24, .int i] G Q := by
    intro Q K
    refine con_rn 40 [] (by decide) rfl ?_
    repeat' first | refine bib (fun h => ?_) (fun h => ?_) | refine bjb (fun h => ?_) (fun h => ?_) | refine bi (fun h => ?_) (fun h => ?_) | refine bj (fun h => ?_) (fun h => ?_) | refine vi (inI (by decide) (by decide)) ?_ | refine vi ?_ ?_ | refine zi (by decide) ?_ | refine zi ?_ ?_ | refine ni rfl ?_ | refine ni (bI_nar _) ?_ | refine c_within ?_
    · rw [if_neg h] at K; exact K
    · exact hin h
    · rw [if_pos h] at K; exact K
  refine con_rn 40 [] (by decide) rfl ?_
  repeat' first | refine bib (fun h => ?_) (fun h => ?_) | refine bjb (fun h => ?_) (fun h => ?_) | refine bi (fun h => ?_) (fun h => ?_) | refine bj (fun h => ?_) (fun h => ?_) | refine vi (inI (by decide) (by decide)) ?_ | refine vi ?_ ?_ | refine zi (by decide) ?_ | refine zi ?_ ?_ | refine ni rfl ?_ | refine ni (bI_nar _) ?_ | refine key ?_
  refine pq ?_
  refine con_rm 40 [] (by decide) rfl (by decide +kernel) h0 ?_
  repeat' first | refine bib (fun h => ?_) (fun h => ?_) | refine bjb (fun h => ?_) (fun h => ?_) | refine bi (fun h => ?_) (fun h => ?_) | refine bj (fun h => ?_) (fun h => ?_) | refine vi (inI (by decide) (by decide)) ?_ | refine vi ?_ ?_ | refine zi (by decide) ?_ | refine zi ?_ ?_ | refine ni rfl ?_ | refine ni (bI_nar _) ?_ | refine (c_in 0 _ rfl rfl) ?_
  · exact ⟨by rw [t2, if_neg h], hI⟩
  · exact hin (t2 ▸ h)
  · exact ⟨by rw [t2, if_pos h, t1], hI⟩
theorem p_kind {X : Xt} {G : Gt} (hI : Inv G) {k : Int32} : pair X m_SW_kind m_Mo_kind [.int k] G := by
  obtain ⟨⟨w1, w2, w3, w4, w5, w6, w7⟩, hT, hS, hP, hs, h0⟩ := id hI
  refine con_rn 40 [] (by decide) rfl ?_
  repeat' first | refine bib (fun h => ?_) (fun h => ?_) | refine bjb (fun h => ?_) (fun h => ?_) | refine bi (fun h => ?_) (fun h => ?_) | refine bj (fun h => ?_) (fun h => ?_) | refine vi (inI (by decide) (by decide)) ?_ | refine vi ?_ ?_ | refine zi (by decide) ?_ | refine zi ?_ ?_ | refine ni rfl ?_ | refine ni (bI_nar _) ?_ | refine c_hasLayer ?_ | refine (c_kindOf w5 (by assumption)) ?_
  all_goals refine pq ?_
  · refine con_rm 40 [] (by decide) rfl (by decide +kernel) h0 ?_
    repeat' first | refine bib (fun h => ?_) (fun h => ?_) | refine bjb (fun h => ?_) (fun h => ?_) | refine bi (fun h => ?_) (fun h => ?_) | refine bj (fun h => ?_) (fun h => ?_) | refine vi (inI (by decide) (by decide)) ?_ | refine vi ?_ ?_ | refine zi (by decide) ?_ | refine zi ?_ ?_ | refine ni rfl ?_ | refine ni (bI_nar _) ?_ | refine c_isLayer ?_ | refine (c_MkindOf (w1 ▸ w5) (by assumption)) ?_
    · rename_i h1; exact absurd (w1 ▸ h1) h
    · exact ⟨by rw [w1, w2, w4], hI⟩
  · refine con_rm 40 [] (by decide) rfl (by decide +kernel) h0 ?_
    repeat' first | refine bib (fun h => ?_) (fun h => ?_) | refine bjb (fun h => ?_) (fun h => ?_) | refine bi (fun h => ?_) (fun h => ?_) | refine bj (fun h => ?_) (fun h => ?_) | refine vi (inI (by decide) (by decide)) ?_ | refine vi ?_ ?_ | refine zi (by decide) ?_ | refine zi ?_ ?_ | refine ni rfl ?_ | refine ni (bI_nar _) ?_ | refine c_isLayer ?_ | refine (c_MkindOf (w1 ▸ w5) (by assumption)) ?_
    · exact ⟨rfl, hI⟩
    · rename_i h1; exact absurd (w1 ▸ h) h1
/-- status, put on both sides alike -/
theorem Inv_st {G : Gt} (hI : Inv G) (v : Int32) : Inv (sG (sG G 0 (upd (G 0) 7 v)) 26 (upd (G 26) 1 v)) := by
  obtain ⟨hW, hT, hS, hP, hs, h0⟩ := hI
  exact ⟨hW, hT, hS, hP, rfl, h0⟩
