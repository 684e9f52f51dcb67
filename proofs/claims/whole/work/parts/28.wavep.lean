/-! wave -/
def wvS (w h b s k x y : Int32) : Int64 := otr w h b s x y k.toNatClampNeg (2 * k.toNatClampNeg + 1)
theorem k4 {k : Int32} (hk : 0 ≤ k ∧ k ≤ 4) : k = nI k.toNatClampNeg ∧ k.toNatClampNeg ≤ 4 := by
  obtain ⟨e, e1, -⟩ := toN hk.1
  have : k.toInt ≤ 4 := by simpa using le32.mp hk.2
  exact ⟨e, by omega⟩
theorem le50 {x w : Int32} (hw : 1 ≤ w ∧ w ≤ 50) (hx : 0 ≤ x ∧ x ≤ w) : 0 ≤ x ∧ x ≤ 50 := ⟨hx.1, Int32.le_trans hx.2 hw.2⟩
abbrev hbP (w h b : Int32) : Prop := (1 ≤ w ∧ w ≤ 50) ∧ (1 ≤ h ∧ h ≤ 50) ∧ 0 ≤ b ∧ b ≤ 10
theorem c_comes {X : Xt} {w h b s k x y : Int32} {G : Gt} {Q : Qt} (hb : hbP w h b) (hk : 0 ≤ k ∧ k ≤ 4) (hx : 0 ≤ x ∧ x ≤ w) (hy : 0 ≤ y ∧ y ≤ h) (K : Q (some (.long (wvS w h b s k x y))) G) : con X m_Harbour_comesTo [.int w, .int h, .int b, .int s, .int k, .int x, .int y] G Q := by
  obtain ⟨e, e4⟩ := k4 hk
  have hc := @c_comesTo X w h b s x y k.toNatClampNeg G Q e4 hb.1 hb.2.1 (le50 hb.1 hx) (le50 hb.2.1 hy) K
  rw [← e] at hc
  exact hc
theorem c_Mwave {X : Xt} {w h b s k x y : Int32} {G : Gt} {Q : Qt} (hb : hbP w h b) (hk : 0 ≤ k ∧ k ≤ 4) (hx : 0 ≤ x ∧ x ≤ w) (hy : 0 ≤ y ∧ y ≤ h) (K : Q (some (.long (wvS w h b s k x y))) G) : con X m_Mo_waveAt [.int w, .int h, .int b, .int s, .int k, .int x, .int y] G Q := by
  obtain ⟨e, e4⟩ := k4 hk
  have hc := @c_waveAt X w h b s x y k.toNatClampNeg G Q e4 hb.1 hb.2.1 (le50 hb.1 hx) (le50 hb.2.1 hy) K
  rw [← e] at hc
  exact hc
theorem c_isOne {X : Xt} {w hh b : Int32} {G : Gt} {Q : Qt} (K : Q (some (.int (bI (hbP w hh b)))) G) : con X m_Harbour_isOne [.int w, .int hh, .int b] G Q := by
  refine con_rn 60 [] (by decide) rfl ?_
  repeat' first | refine bib (fun h => ?_) (fun h => ?_) | refine bjb (fun h => ?_) (fun h => ?_) | refine bi (fun h => ?_) (fun h => ?_) | refine bj (fun h => ?_) (fun h => ?_) | refine vi (inI (by decide) (by decide)) ?_ | refine vi ?_ ?_ | refine zi (by decide) ?_ | refine zi ?_ ?_ | refine ni rfl ?_ | refine ni (bI_nar _) ?_ | refine c_within ?_
  · exact Qi K (bI_f (fun z => h z.1)).symm
  · exact Qi K (bI_f (fun z => h z.2.1)).symm
  · exact Qi K (bI_f (fun z => h z.2.2)).symm
  · rename_i h1 h2; exact Qi K (bI_t ⟨h1, h2, h⟩).symm
abbrev wvP (w h b s k x y : Int32) : Prop := hbP w h b ∧ (1 ≤ s ∧ s ≤ 1000000) ∧ (0 ≤ k ∧ k ≤ 4) ∧ (0 ≤ x ∧ x ≤ w) ∧ 0 ≤ y ∧ y ≤ h
theorem c_SW_wave {X : Xt} {w e b s k x y : Int32} {G : Gt} {Q : Qt} (K1 : ¬ wvP w e b s k x y → Q (some (.long (-1000001))) G) (K2 : wvP w e b s k x y → Q (some (.long (wvS w e b s k x y))) G) : con X m_SW_wave [.ref 0, .int w, .int e, .int b, .int s, .int k, .int x, .int y] G Q := by
  refine con_rn 80 [] (by decide) rfl ?_
  repeat' first | refine bib (fun h => ?_) (fun h => ?_) | refine bjb (fun h => ?_) (fun h => ?_) | refine bi (fun h => ?_) (fun h => ?_) | refine bj (fun h => ?_) (fun h => ?_) | refine vi (inI (by decide) (by decide)) ?_ | refine vi ?_ ?_ | refine zi (by decide) ?_ | refine zi ?_ ?_ | refine ni rfl ?_ | refine ni (bI_nar _) ?_ | refine c_isOne ?_ | refine c_within ?_ | refine (c_comes (by assumption) (by assumption) (by assumption) (by assumption)) ?_
  · exact K1 (fun z => h z.1)
  · exact K1 (fun z => h z.2.1)
  · exact K1 (fun z => h z.2.2.1)
  · exact K1 (fun z => h z.2.2.2.1)
  · rename_i h1 h2 h3 h4; exact K2 ⟨h1, h2, h3, h4, h⟩
  · exact K1 (fun z => h z.2.2.2.2)
theorem c_isHarbour2 {X : Xt} {w e b : Int32} {G : Gt} {Q : Qt} (K : Q (some (.int (bI (hbP w e b)))) G) : con X m_Mo_isHarbour [.int w, .int e, .int b] G Q := c_isHarbour K
theorem c_Mo_wave {X : Xt} {w e b s k x y : Int32} {G : Gt} {Q : Qt} (h0 : G 26 0 = 0) (K1 : ¬ wvP w e b s k x y → Q (some (.long (-1000001))) G) (K2 : wvP w e b s k x y → Q (some (.long (wvS w e b s k x y))) G) : con X m_Mo_wave [.ref 26, .int w, .int e, .int b, .int s, .int k, .int x, .int y] G Q := by
  refine con_rm 80 [] (by decide) rfl (by decide +kernel) h0 ?_
  repeat' first | refine bib (fun h => ?_) (fun h => ?_) | refine bjb (fun h => ?_) (fun h => ?_) | refine bi (fun h => ?_) (fun h => ?_) | refine bj (fun h => ?_) (fun h => ?_) | refine vi (inI (by decide) (by decide)) ?_ | refine vi ?_ ?_ | refine zi (by decide) ?_ | refine zi ?_ ?_ | refine ni rfl ?_ | refine ni (bI_nar _) ?_ | refine c_isHarbour2 ?_ | refine (c_in 1 1000000 rfl rfl) ?_ | refine (c_in 0 4 rfl rfl) ?_ | refine (c_in 0 _ rfl rfl) ?_ | refine (c_Mwave (by assumption) (by assumption) (by assumption) (by assumption)) ?_
  · exact K1 (fun z => h z.1)
  · exact K1 (fun z => h z.2.1)
  · exact K1 (fun z => h z.2.2.1)
  · exact K1 (fun z => h z.2.2.2.1)
  · rename_i h1 h2 h3 h4; exact K2 ⟨h1, h2, h3, h4, h⟩
  · exact K1 (fun z => h z.2.2.2.2)
def pairL (X : Xt) (mx mm : Nat) (as : List Value) (G : Gt) : Prop := con X mx (.ref 0 :: as) G (fun r1 G1 => ∃ v, r1 = some (.long v) ∧ con X mm (.ref 26 :: as) G1 (fun r2 G2 => r2 = some (.long v) ∧ Inv G2))
theorem p_wave {X : Xt} {G : Gt} (hI : Inv G) {w e b s k x y : Int32} : pairL X m_SW_wave m_Mo_wave [.int w, .int e, .int b, .int s, .int k, .int x, .int y] G := by
  obtain ⟨hW, hT, hS, hP, hs, h0⟩ := id hI
  refine c_SW_wave (fun h => ⟨_, rfl, ?_⟩) (fun h => ⟨_, rfl, ?_⟩)
  · exact c_Mo_wave h0 (fun _ => ⟨rfl, hI⟩) (fun z => absurd z h)
  · exact c_Mo_wave h0 (fun z => absurd h z) (fun _ => ⟨rfl, hI⟩)
