/-! the start: what the cells hold, the classes, the two tables of the class -/
def G0 : Gt := fun p => match p with
  | 4 => fun j => if j < 8 then (-1) else 0
  | 6 => upd (upd (upd (upd (upd (fun _ => 0) 0 20) 1 6) 2 15) 3 10) 4 15
  | 27 => upd (upd (upd (upd (upd (upd (upd (upd (fun _ => 0) 0 (-1)) 1 (-1)) 2 (-1)) 3 (-1)) 4 (-1)) 5 (-1)) 6 (-1)) 7 (-1)
  | 30 => upd (upd (upd (upd (upd (fun _ => 0) 0 20) 1 6) 2 15) 3 10) 4 15
  | _ => fun _ => 0
theorem cnt_zero : ∀ n : Nat, cnt (fun _ => 0) n = 0
  | 0 => rfl
  | n + 1 => by
    show cnt (fun _ => 0) n + (if (0 : Int32) = 0 then 0 else 1) = 0
    rw [cnt_zero n]
    rfl
theorem Inv_G0 : Inv G0 := by
  refine ⟨⟨rfl, rfl, rfl, rfl, ?_, ?_, ?_⟩, ⟨rfl, rfl, by decide, by decide⟩, ?_, ⟨?_, ?_, ?_, ?_⟩, rfl, rfl⟩
  · show (0 : Int32) ≤ 0 ∧ (0 : Int32) ≤ 6
    decide
  · show (1 ≤ (20 : Int32) ∧ (20 : Int32) ≤ 100) ∧ (1 ≤ (6 : Int32) ∧ (6 : Int32) ≤ 50) ∧ (1 ≤ (15 : Int32) ∧ (15 : Int32) ≤ 60) ∧ (1 ≤ (10 : Int32) ∧ (10 : Int32) ≤ 1000) ∧ (2 ≤ (15 : Int32) ∧ (15 : Int32) ≤ 30)
    decide
  · intro j hj
    have hj : (j : Int) < (0 : Int32).toInt := hj
    rw [show (0 : Int32).toInt = 0 from rfl] at hj
    omega
  · intro s hs
    rcases (show s = 0 ∨ s = 1 ∨ s = 2 ∨ s = 3 ∨ s = 4 ∨ s = 5 ∨ s = 6 ∨ s = 7 by omega) with rfl | rfl | rfl | rfl | rfl | rfl | rfl | rfl <;> exact Or.inl ⟨rfl, rfl⟩
  · exact fun r p _ _ => Or.inl rfl
  · intro r hr
    show 0 ≤ (0 : Int32).toInt ∧ (0 : Int32).toInt < 2 ^ (12 - r)
    rcases (show r = 0 ∨ r = 1 ∨ r = 2 ∨ r = 3 ∨ r = 4 ∨ r = 5 ∨ r = 6 ∨ r = 7 by omega) with rfl | rfl | rfl | rfl | rfl | rfl | rfl | rfl <;> decide
  · intro r p _ _
    show (0 : Int32) = 1 ↔ Nat.testBit 0 p = true
    rw [Nat.zero_testBit]
    exact ⟨fun h => absurd h (by decide), fun h => absurd h (by decide)⟩
  · show (0 : Int32) = nI (cnt (fun _ => 0) 96)
    rw [cnt_zero]
    rfl
def ev (D : va_G) (cI cZ : ClassId) (as : List Nat) : Ev := (D, fun p => as.getD p 0, cI, cZ)
set_option maxRecDepth 100000 in
theorem ws_G0 (D : va_G) (cI cZ : ClassId) (q0 q1 q2 q3 q4 q5 q6 q7 q8 q9 q10 q11 q12 q13 q14 q15 q16 q17 q18 q19 q20 q21 q22 q23 q24 q25 q26 q27 q28 q29 q30 q31 q32 q33 q34 q35 q36 q37 q38 q39 q40 q41 q42 b t1 t2 : Nat) : ws (ev D cI cZ [q0, q1, q2, q3, q4, q5, q6, q7, q8, q9, q10, q11, q12, q13, q14, q15, q16, q17, q18, q19, q20, q21, q22, q23, q24, q25, q26, q27, q28, q29, q30, q31, q32, q33, q34, q35, q36, q37, q38, q39, q40, q41, q42, b, t1, t2]) G0 = [(q0, .inr (8, [.ref q1, .ref q5, .ref q9, .ref q14, .ref q18, .ref q21, .ref q24, .int 0])), (q1, .inr (5, [.ref q2, .ref q3, .ref q4])), (q2, .inl (cI, 800, .inl (fun _ => 0))), (q3, .inl (cI, 8, .inl (fun _ => 0))), (q4, .inl (cI, 8, .inl (fun j => if j < 8 then (-1) else 0))), (q5, .inr (7, [.ref q6, .ref q7, .ref q8, .int 0])), (q6, .inl (cI, 5, .inl (upd (upd (upd (upd (upd (fun _ => 0) 0 20) 1 6) 2 15) 3 10) 4 15))), (q7, .inl (cI, 6, .inl (fun _ => 0))), (q8, .inl (cI, 6, .inl (fun _ => 0))), (q9, .inr (4, [.ref q10, .ref q11, .ref q12, .ref q13, .int 0])), (q10, .inl (cI, 4, .inl (fun _ => 0))), (q11, .inl (cI, 3, .inl (fun _ => 0))), (q12, .inl (cI, 4, .inl (fun _ => 0))), (q13, .inl (cI, 12, .inl (fun _ => 0))), (q14, .inr (3, [.ref q15, .ref q16, .ref q17, .int 0])), (q15, .inl (cZ, 96, .inl (fun _ => 0))), (q16, .inl (cZ, 96, .inl (fun _ => 0))), (q17, .inl (cI, 96, .inl (fun _ => 0))), (q18, .inr (2, [.ref q19, .ref q20, .int 0])), (q19, .inl (cI, 48, .inl (fun _ => 0))), (q20, .inl (cI, 48, .inl (fun _ => 0))), (q21, .inr (6, [.ref q22, .ref q23, .int 0, .int 0, .int 0, .int 0, .int 0])), (q22, .inl (cZ, 100, .inl (fun _ => 0))), (q23, .inl (cI, 100, .inl (fun _ => 0))), (q24, .inr (0, [.ref q25, .int 0])), (q25, .inl (cI, 16, .inl (fun _ => 0))), (q26, .inr (9, [.int 0, .int 0, .ref q27, .ref q28, .ref q29, .ref q30, .int 0, .ref q31, .ref q32, .ref q33, .ref q34, .ref q35, .ref q36, .ref q37, .int 0, .ref q38, .ref q39, .ref q40, .ref q41, .ref q42, .int 0])), (q27, .inl (cI, 8, .inl (upd (upd (upd (upd (upd (upd (upd (upd (fun _ => 0) 0 (-1)) 1 (-1)) 2 (-1)) 3 (-1)) 4 (-1)) 5 (-1)) 6 (-1)) 7 (-1)))), (q28, .inl (cI, 8, .inl (fun _ => 0))), (q29, .inl (cI, 800, .inl (fun _ => 0))), (q30, .inl (cI, 5, .inl (upd (upd (upd (upd (upd (fun _ => 0) 0 20) 1 6) 2 15) 3 10) 4 15))), (q31, .inl (cI, 6, .inl (fun _ => 0))), (q32, .inl (cI, 6, .inl (fun _ => 0))), (q33, .inl (cI, 4, .inl (fun _ => 0))), (q34, .inl (cI, 3, .inl (fun _ => 0))), (q35, .inl (cZ, 12, .inl (fun _ => 0))), (q36, .inl (cI, 12, .inl (fun _ => 0))), (q37, .inl (cI, 8, .inl (fun _ => 0))), (q38, .inl (cI, 68, .inl (fun _ => 0))), (q39, .inl (cI, 68, .inl (fun _ => 0))), (q40, .inl (cI, 8, .inl (fun _ => 0))), (q41, .inl (cI, 100, .inl (fun _ => 0))), (q42, .inl (cI, 16, .inl (fun _ => 0)))] := rfl
theorem k_arr {args : Array Value} {s : State} {ty : FieldType} (h : (Cond.arrayClass ty).before args s = true) : ∃ cA : ClassId, ArrOfT s cA ty ∧ s.vm.findClass ("[" ++ ty.toString) = some cA := by
  obtain ⟨c, k, comp, h1, h2, h3⟩ := Cond.arrayClass_spec h
  exact ⟨c, fun n z => ⟨fun k h => (by cases h), k, h2, comp, h3⟩, h1⟩
set_option maxRecDepth 100000 in
theorem k_K {args : Array Value} {s : State} (hgw : ∀ w ∈ gw, w.before args s = true) : ∃ (D : va_G) (cI cZ : ClassId), va_K D classes (tyc cI cZ) s := by
  obtain ⟨c0, i0, h0⟩ := u_known (C := RX0) (T := TX0) (N := 2) (n := 2) hgw (uw (q := 24) rfl rfl rfl) (hgw _ kn_Asks)
  obtain ⟨c2, i2, h2⟩ := u_known (C := RX2) (T := TX2) (N := 3) (n := 3) hgw (uw (q := 18) rfl rfl rfl) (hgw _ kn_Hours)
  obtain ⟨c3, i3, h3⟩ := u_known (C := RX3) (T := TX3) (N := 4) (n := 4) hgw (uw (q := 14) rfl rfl rfl) (hgw _ kn_Pile)
  obtain ⟨c4, i4, h4⟩ := u_known (C := RX4) (T := TX4) (N := 5) (n := 5) hgw (uw (q := 9) rfl rfl rfl) (hgw _ kn_Quarry)
  obtain ⟨c5, i5, h5⟩ := u_known (C := RX5) (T := TX5) (N := 3) (n := 3) hgw (uw (q := 1) rfl rfl rfl) (hgw _ kn_Sheets)
  obtain ⟨c6, i6, h6⟩ := u_known (C := RX6) (T := TX6) (N := 7) (n := 7) hgw (uw (q := 21) rfl rfl rfl) (hgw _ kn_Surveys)
  obtain ⟨c7, i7, h7⟩ := u_known (C := RX7) (T := TX7) (N := 4) (n := 4) hgw (uw (q := 5) rfl rfl rfl) (hgw _ kn_Wall)
  obtain ⟨c8, i8, h8⟩ := u_known (C := RX8) (T := TX8) (N := 8) (n := 8) hgw (uw (q := 0) rfl rfl rfl) (hgw _ kn_SW)
  obtain ⟨c9, i9, h9⟩ := u_known (C := RX9) (T := TX9) (N := 21) (n := 21) hgw (uw (q := 26) rfl rfl rfl) (hgw _ kn_Model)
  obtain ⟨cI, a1, a2⟩ := k_arr (hgw _ w_aI)
  obtain ⟨cZ, b1, b2⟩ := k_arr (hgw _ w_aZ)
  refine ⟨(fun k => [c0, c0, c2, c3, c4, c5, c6, c7, c8, c9].getD k c0, fun k => [i0, i0, i2, i3, i4, i5, i6, i7, i8, i9].getD k i0), cI, cZ, fun k q hq => ?_, fun k q hq => ?_⟩
  · match k, hq with
    | 0, hq => cases hq; exact h0
    | 1, hq => cases hq; exact h0
    | 2, hq => cases hq; exact h2
    | 3, hq => cases hq; exact h3
    | 4, hq => cases hq; exact h4
    | 5, hq => cases hq; exact h5
    | 6, hq => cases hq; exact h6
    | 7, hq => cases hq; exact h7
    | 8, hq => cases hq; exact h8
    | 9, hq => cases hq; exact h9
    | n + 10, hq => simp [classes] at hq
  · match k, hq with
    | 0, hq => cases hq; exact ⟨a1, a2⟩
    | 1, hq => cases hq; exact ⟨b1, b2⟩
    | n + 2, hq => simp [tyc] at hq
/-- an array of five ints behind a term: just five, and these -/
theorem st_X {args : Array Value} {s : State} {tm : Term} {f : Nat → Int32} (harr : (Cond.arrayOf tm .int).before args s = true) (hlen : (Term.length tm).eval args s none [] s = some (.int (Int32.ofNat 5))) (hel : ∀ j : Nat, j < 5 → (Term.elem tm (.int (Int32.ofNat j))).eval args s none [] s = some (.int (f j))) : ∃ t : Nat, tm.eval args s none [] s = some (.ref t) ∧ va_X t 5 f s s.heap ∧ t < s.heap.size := by
  obtain ⟨t, ht, cell, h1, h2, h3, h4, h5, h6, -⟩ := va_Tof (N := 5) (f := fun j => .int (f j)) (A := fun _ => False) (by decide) harr hlen hel (fun _ _ h => h)
  refine ⟨t, ht, ⟨cell, h1, h2, h3, ?_, h6⟩, (Array.getElem?_eq_some_iff.mp h1).1⟩
  have hs : cell.slots.size < 2 ^ 31 := by
    have hl := hlen
    obtain ⟨a, c2, g1, g2, -⟩ := Term.length_spec hlen
    cases ht.symm.trans g1
    obtain ⟨k1, -, -, -⟩ := State.arrayAt?_spec g2
    cases h1.symm.trans k1
    simp only [Term.eval, Option.bind_eq_bind] at hl
    rw [ht] at hl
    simp only [Option.bind_some] at hl
    rw [g2] at hl
    simp only [Option.bind_some] at hl
    by_cases hn : cell.slots.size < 2147483648
    · exact hn
    · rw [if_neg hn] at hl
      cases hl
  have e := congrArg Int32.toNatClampNeg h5
  rw [show cell.slots.size.toInt32 = Int32.ofNat cell.slots.size from rfl, Int32.toNatClampNeg_ofNat_of_lt hs, Int32.toNatClampNeg_ofNat_of_lt (by decide)] at e
  exact e
set_option maxRecDepth 100000 in
theorem w_le : Cond.laysStatic "StoneWorks$Wall" "LEAST" "[I" ∈ lw_tbl := List.mem_append_right _ (List.mem_of_getElem? (i := 276) rfl)
set_option maxRecDepth 100000 in
theorem w_mo : Cond.laysStatic "StoneWorks$Wall" "MOST" "[I" ∈ lw_tbl := List.mem_append_right _ (List.mem_of_getElem? (i := 278) rfl)
theorem st_LEAST {args : Array Value} {s : State} {L : Nat} {xs : Nat → Int32} (hts : ∀ w ∈ lw_tbl, w.before args s = true) (hgv : (Jvm.Cond.and given_1 narrow_1).before args s = true) : ∃ t : Nat, (va_X t 5 (xF (L, xs) 44) s s.heap ∧ ¬ s.heap.size ≤ t) ∧ va_Z "StoneWorks$Wall" "LEAST" "[I" (.ref t) (fun q => s.heap.size ≤ q) s s.heap := by
  have hs := flat_of_before _ hgv
  have ha : (Cond.arrayOf (.static "StoneWorks$Wall" "LEAST" "[I") .int).before args s = true := hs _ (by decide +kernel)
  have hl : (Cond.eq (.length (.static "StoneWorks$Wall" "LEAST" "[I")) (.int 5)).before args s = true := hs _ (by decide +kernel)
  have g0 : (Cond.eq (.elem (.static "StoneWorks$Wall" "LEAST" "[I") (.int 0)) (.int 1)).before args s = true := hs _ (by decide +kernel)
  have g1 : (Cond.eq (.elem (.static "StoneWorks$Wall" "LEAST" "[I") (.int 1)) (.int 1)).before args s = true := hs _ (by decide +kernel)
  have g2 : (Cond.eq (.elem (.static "StoneWorks$Wall" "LEAST" "[I") (.int 2)) (.int 1)).before args s = true := hs _ (by decide +kernel)
  have g3 : (Cond.eq (.elem (.static "StoneWorks$Wall" "LEAST" "[I") (.int 3)) (.int 1)).before args s = true := hs _ (by decide +kernel)
  have g4 : (Cond.eq (.elem (.static "StoneWorks$Wall" "LEAST" "[I") (.int 4)) (.int 2)).before args s = true := hs _ (by decide +kernel)
  obtain ⟨t, e1, x1, l1⟩ := st_X (tm := (.static "StoneWorks$Wall" "LEAST" "[I")) (f := xF (L, xs) 44) ha (va_eqt hl) (fun j hj => by
    rcases (show j = 0 ∨ j = 1 ∨ j = 2 ∨ j = 3 ∨ j = 4 by omega) with rfl | rfl | rfl | rfl | rfl
    · exact va_eqt g0
    · exact va_eqt g1
    · exact va_eqt g2
    · exact va_eqt g3
    · exact va_eqt g4)
  exact ⟨t, ⟨x1, Nat.not_le.mpr l1⟩, va_Zref (hts _ w_le) (hts _ (gw_tbl kz_Wall)) e1 (fun a h => Nat.not_le.mpr h)⟩
theorem st_MOST {args : Array Value} {s : State} {L : Nat} {xs : Nat → Int32} (hts : ∀ w ∈ lw_tbl, w.before args s = true) (hgv : (Jvm.Cond.and given_1 narrow_1).before args s = true) : ∃ t : Nat, (va_X t 5 (xF (L, xs) 45) s s.heap ∧ ¬ s.heap.size ≤ t) ∧ va_Z "StoneWorks$Wall" "MOST" "[I" (.ref t) (fun q => s.heap.size ≤ q) s s.heap := by
  have hs := flat_of_before _ hgv
  have ha : (Cond.arrayOf (.static "StoneWorks$Wall" "MOST" "[I") .int).before args s = true := hs _ (by decide +kernel)
  have hl : (Cond.eq (.length (.static "StoneWorks$Wall" "MOST" "[I")) (.int 5)).before args s = true := hs _ (by decide +kernel)
  have g0 : (Cond.eq (.elem (.static "StoneWorks$Wall" "MOST" "[I") (.int 0)) (.int 100)).before args s = true := hs _ (by decide +kernel)
  have g1 : (Cond.eq (.elem (.static "StoneWorks$Wall" "MOST" "[I") (.int 1)) (.int 50)).before args s = true := hs _ (by decide +kernel)
  have g2 : (Cond.eq (.elem (.static "StoneWorks$Wall" "MOST" "[I") (.int 2)) (.int 60)).before args s = true := hs _ (by decide +kernel)
  have g3 : (Cond.eq (.elem (.static "StoneWorks$Wall" "MOST" "[I") (.int 3)) (.int 1000)).before args s = true := hs _ (by decide +kernel)
  have g4 : (Cond.eq (.elem (.static "StoneWorks$Wall" "MOST" "[I") (.int 4)) (.int 30)).before args s = true := hs _ (by decide +kernel)
  obtain ⟨t, e1, x1, l1⟩ := st_X (tm := (.static "StoneWorks$Wall" "MOST" "[I")) (f := xF (L, xs) 45) ha (va_eqt hl) (fun j hj => by
    rcases (show j = 0 ∨ j = 1 ∨ j = 2 ∨ j = 3 ∨ j = 4 by omega) with rfl | rfl | rfl | rfl | rfl
    · exact va_eqt g0
    · exact va_eqt g1
    · exact va_eqt g2
    · exact va_eqt g3
    · exact va_eqt g4)
  exact ⟨t, ⟨x1, Nat.not_le.mpr l1⟩, va_Zref (hts _ w_mo) (hts _ (gw_tbl kz_Wall)) e1 (fun a h => Nat.not_le.mpr h)⟩
theorem k_XT {args : Array Value} {s : State} {b L : Nat} {xs : Nat → Int32} (hts : ∀ w ∈ lw_tbl, w.before args s = true) (hgv : (Jvm.Cond.and given_1 narrow_1).before args s = true) (hX : va_X b L xs s s.heap) (hbl : b < s.heap.size) : ∃ t1 t2 : Nat, ∀ E : Ev, E.2.1 43 = b → E.2.1 44 = t1 → E.2.1 45 = t2 → XT (L, xs) E (fun q => s.heap.size ≤ q) s s.heap := by
  obtain ⟨t1, x1, z1⟩ := st_LEAST (L := L) (xs := xs) hts hgv
  obtain ⟨t2, x2, z2⟩ := st_MOST (L := L) (xs := xs) hts hgv
  refine ⟨t1, t2, fun E e1 e2 e3 => ⟨fun e h1 h2 => ?_, fun e h1 h2 => ?_⟩⟩
  · rcases (show e = 43 ∨ e = 44 ∨ e = 45 by omega) with rfl | rfl | rfl
    · rw [e1]; exact ⟨hX, Nat.not_le.mpr hbl⟩
    · rw [e2]; exact x1
    · rw [e3]; exact x2
  · rcases (show e = 44 ∨ e = 45 by omega) with rfl | rfl
    · rw [e2]; exact z1
    · rw [e3]; exact z2
theorem nli_ok : ∀ q ∈ nli, nWi q ∈ lw_tbl := List.forall_mem_cons.mpr ⟨km_Hours, List.forall_mem_cons.mpr ⟨km_Pile, List.forall_mem_cons.mpr ⟨km_Quarry, List.forall_mem_cons.mpr ⟨km_Surveys, List.forall_mem_cons.mpr ⟨km_Wall, List.forall_mem_cons.mpr ⟨km_Asks, fun _ h => absurd h List.not_mem_nil⟩⟩⟩⟩⟩⟩
theorem k_blN {av : List Value} {sz : Nat} {D : va_G} {ws : va_W} {tys : List (ClassId × FieldType)} {w2 : va_W} {A : Nat → Prop} : FrameBlind (va_Pc av (fun U => U.heap.size = sz ∧ va_P D classes ws U.heap ∧ va_K D classes tys U ∧ va_D A w2 ∧ (∀ q ∈ nli, va_Nw (nWi q) U))) := by
  intro a U g mk h
  obtain ⟨h1, h2, h3, h4, h5, h6⟩ := h
  exact ⟨h1, h2, h3, va_K.moved (u := U) (U := U.calling g mk a) (Vm.Alike.refl U.vm) h4, h5, fun q hq => va_Nw.same (u := U) (U := U.calling g mk a) rfl rfl (h6 q hq)⟩
theorem mB_law : mB m_StoneWorksLaw_law = code := rfl
theorem mL_law : mL m_StoneWorksLaw_law = 4 := rfl
theorem cN_law : cN (mO m_StoneWorksLaw_law) = "StoneWorksLaw" := rfl
theorem mF_law : mF m_StoneWorksLaw_law ≤ 9 ∧ mLo m_StoneWorksLaw_law ≤ 314 := ⟨Nat.le_of_ble_eq_true rfl, Nat.le_of_ble_eq_true rfl⟩
