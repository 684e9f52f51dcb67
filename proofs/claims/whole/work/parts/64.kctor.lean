/-! constructors, one by one -/
set_option maxHeartbeats 8000000 in
set_option maxRecDepth 100000 in
theorem k_Hours (l : Launch) (D : va_G) (cI cZ : ClassId) (h0 sz : Nat) : Met l yk_Hours (kW_Hours :: gw) ({ frames := 1, cells := 2, slots := 96, locals := 12 }) (va_Pc [.ref h0] (fun U => U.heap.size = sz ∧ va_P D classes [(h0, .inr (2, [.null, .null, .int 0]))] U.heap ∧ va_K D classes (tyc cI cZ) U ∧ va_D (fun _ => True) [(h0, .inr (2, [.null, .null, .int 0]))])) (va_Qv (fun _ : Unit => True) (fun _ t => ∃ q1 q2 : Nat, va_P D classes [(h0, .inr (2, [.ref q1, .ref q2, .int 0])), (q1, .inl (cI, 48, .inl (fun _ => 0))), (q2, .inl (cI, 48, .inl (fun _ => 0)))] t.heap ∧ va_D (va_A [(h0, .inr (2, [.null, .null, .int 0]))] sz) [(h0, .inr (2, [.ref q1, .ref q2, .int 0])), (q1, .inl (cI, 48, .inl (fun _ => 0))), (q2, .inl (cI, 48, .inl (fun _ => 0)))]) (va_A [(h0, .inr (2, [.null, .null, .int 0]))] sz)) 2 96 (va_A [(h0, .inr (2, [.null, .null, .int 0]))] sz) := by
  refine Met.ofW (cc := prog_4_method_1_code) (maxL := 1) (ret := none) (by decide) rfl ?_
  intro p e s m args below meth c s₁ B hml hv
  obtain ⟨rfl, hsz, hP, hK, hD0⟩ := hv
  have hx := B.exec
  have hb := B.bytes
  have hr := B.returns
  have hts := atoms_spec (ws := kW_Hours :: gw) B.pre
  have hgw := fun (w : Cond) (hw : w ∈ gw) => hts w (List.mem_cons_of_mem _ hw)
  have hown : s.vm.findClass "StoneWorks$Hours" = some m.cls := findClass_of_methodNamed B.named
  have hlocks := B.notSynchronized
  have hin : meth.name = "<init>" := (name_of_methodNamed B.named B.method).1
  subst hsz
  have hD := hD0.self (sz := s.heap.size)
  generalize hAe : va_A [(h0, .inr (2, [.null, .null, .int 0]))] s.heap.size = A at hD ⊢
  have hA : ∀ q : Nat, s.heap.size ≤ q → A q := fun q h => by rw [← hAe]; exact Or.inr h
  have hS : va_S A s.heap s.heap [] := va_S.rf
  have hP : va_P D classes [(h0, .inr (2, [.null, .null, .int 0]))] s.heap := hP
  have hl := lv_entry ([.ref h0]) (n := 1) (Nat.le_of_ble_eq_true rfl)
  rw [lg_entry_eq]
  generalize (lg_sl ([.ref h0]) ++ List.replicate (1 - (lg_sl ([.ref h0])).length) Slot.unset).toArray = ls at hl ⊢
  have hl : lv_has ls 1 [(0, .ref h0)] := hl
  refine lv_aload_n hx hb dq_Hours_0 rfl (lv_at hl 0 rfl) ?_
  refine W.objInit hx hb hown (hgw _ ko_Hours) (hgw _ w_oi) (hgw _ w_oc) rfl (by rw [hml]; exact hl.1) rfl dq_Hours_1 (Nat.le_of_ble_eq_true rfl) (Nat.le_of_ble_eq_true rfl) ?_
  refine W.eq (g2 := F0 m 4 ls []) rfl ?_
  refine lv_aload_n hx hb dq_Hours_4 rfl (lv_at hl 0 rfl) ?_
  refine lv_bipush (v := 48) hx hb dq_Hours_5 (by decide) ?_
  refine va_newI (N := 48) hx hb (hgw _ w_aI) hK hP hD hS hA (by decide) rfl (Nat.le_of_ble_eq_true rfl) (Nat.le_of_ble_eq_true rfl) (Nat.le_of_ble_eq_true rfl) dq_Hours_7 (fun q1 H hP hD hS => ?_)
  have hP : va_P D classes [(h0, .inr (2, [.null, .null, .int 0])), (q1, .inl (cI, 48, .inl (fun _ => 0)))] H := hP
  have hD : va_D A [(h0, .inr (2, [.null, .null, .int 0])), (q1, .inl (cI, 48, .inl (fun _ => 0)))] := hD
  refine W.widen (k := 1) (n := 48) (by omega) (by omega) ?_
  refine va_putF (D := D) (ci := 2) (v := .ref q1) (ty := .array .int) (C := RX2) (T := TX2) (N := 3) hx hb hgw (uw (q := 18) rfl rfl rfl) tyX2 tyX2_ok nmX2 hown hK hP hD hS 0 rfl rfl 0 (by decide) (show (Cond.fieldLink "StoneWorks$Hours" 11 "StoneWorks$Hours" "waves" "[I").before _ s = true from hgw _ (fl_in (3, 11, 2, 0) (by decide))) (fun _ h9 => h9) rfl hin rfl (by decide +kernel) rfl rfl (Nat.le_of_ble_eq_true rfl) dq_Hours_9 (fun H locs hP hD hS => ?_)
  have hP : va_P D classes [(h0, .inr (2, [.ref q1, .null, .int 0])), (q1, .inl (cI, 48, .inl (fun _ => 0)))] H := hP
  have hD : va_D A [(h0, .inr (2, [.ref q1, .null, .int 0])), (q1, .inl (cI, 48, .inl (fun _ => 0)))] := hD
  refine lv_aload_n hx hb dq_Hours_12 rfl (lv_at hl 0 rfl) ?_
  refine lv_bipush (v := 48) hx hb dq_Hours_13 (by decide) ?_
  refine va_newI (N := 48) hx hb (hgw _ w_aI) hK hP hD hS hA (by decide) rfl (Nat.le_of_ble_eq_true rfl) (Nat.le_of_ble_eq_true rfl) (Nat.le_of_ble_eq_true rfl) dq_Hours_15 (fun q2 H hP hD hS => ?_)
  have hP : va_P D classes [(h0, .inr (2, [.ref q1, .null, .int 0])), (q1, .inl (cI, 48, .inl (fun _ => 0))), (q2, .inl (cI, 48, .inl (fun _ => 0)))] H := hP
  have hD : va_D A [(h0, .inr (2, [.ref q1, .null, .int 0])), (q1, .inl (cI, 48, .inl (fun _ => 0))), (q2, .inl (cI, 48, .inl (fun _ => 0)))] := hD
  refine W.widen (k := 2) (n := 96) (by omega) (by omega) ?_
  refine va_putF (D := D) (ci := 2) (v := .ref q2) (ty := .array .int) (C := RX2) (T := TX2) (N := 3) hx hb hgw (uw (q := 18) rfl rfl rfl) tyX2 tyX2_ok nmX2 hown hK hP hD hS 0 rfl rfl 1 (by decide) (show (Cond.fieldLink "StoneWorks$Hours" 15 "StoneWorks$Hours" "levels" "[I").before _ s = true from hgw _ (fl_in (3, 15, 2, 1) (by decide))) (fun _ h9 => h9) rfl hin rfl (by decide +kernel) rfl rfl (Nat.le_of_ble_eq_true rfl) dq_Hours_17 (fun H locs hP hD hS => ?_)
  have hP : va_P D classes [(h0, .inr (2, [.ref q1, .ref q2, .int 0])), (q1, .inl (cI, 48, .inl (fun _ => 0))), (q2, .inl (cI, 48, .inl (fun _ => 0)))] H := hP
  have hD : va_D A [(h0, .inr (2, [.ref q1, .ref q2, .int 0])), (q1, .inl (cI, 48, .inl (fun _ => 0))), (q2, .inl (cI, 48, .inl (fun _ => 0)))] := hD
  refine lv_aload_n hx hb dq_Hours_20 rfl (lv_at hl 0 rfl) ?_
  refine lv_iconst (v := 0) hx hb dq_Hours_21 (by decide) ?_
  refine va_put (D := D) (ci := 2) (v := .int 0) (ty := .int) (C := RX2) (T := TX2) (N := 3) hx hb hgw (uw (q := 18) rfl rfl rfl) tyX2 tyX2_ok nmX2 hown hK hP hD hS 0 rfl rfl 2 (by decide) (show (Cond.fieldLink "StoneWorks$Hours" 18 "StoneWorks$Hours" "hours" "I").before _ s = true from hgw _ (fl_in (3, 18, 2, 2) (by decide))) (fun _ h9 => h9) rfl (by decide +kernel) rfl rfl (Nat.le_of_ble_eq_true rfl) dq_Hours_22 (fun H locs hP hD hS => ?_)
  have hP : va_P D classes [(h0, .inr (2, [.ref q1, .ref q2, .int 0])), (q1, .inl (cI, 48, .inl (fun _ => 0))), (q2, .inl (cI, 48, .inl (fun _ => 0)))] H := hP
  have hD : va_D A [(h0, .inr (2, [.ref q1, .ref q2, .int 0])), (q1, .inl (cI, 48, .inl (fun _ => 0))), (q2, .inl (cI, 48, .inl (fun _ => 0)))] := hD
  exact W.vret hx hb hr (fun t ht hW => ⟨⟨(), rfl, trivial, q1, q2, by rw [ht]; exact hP, hD⟩, hS.F ht⟩) hS.2.2 dq_Hours_25
set_option maxHeartbeats 8000000 in
set_option maxRecDepth 100000 in
theorem k_Pile (l : Launch) (D : va_G) (cI cZ : ClassId) (h0 sz : Nat) : Met l yk_Pile (kW_Pile :: gw) ({ frames := 1, cells := 3, slots := 288, locals := 12 }) (va_Pc [.ref h0] (fun U => U.heap.size = sz ∧ va_P D classes [(h0, .inr (3, [.null, .null, .null, .int 0]))] U.heap ∧ va_K D classes (tyc cI cZ) U ∧ va_D (fun _ => True) [(h0, .inr (3, [.null, .null, .null, .int 0]))])) (va_Qv (fun _ : Unit => True) (fun _ t => ∃ q1 q2 q3 : Nat, va_P D classes [(h0, .inr (3, [.ref q1, .ref q2, .ref q3, .int 0])), (q1, .inl (cZ, 96, .inl (fun _ => 0))), (q2, .inl (cZ, 96, .inl (fun _ => 0))), (q3, .inl (cI, 96, .inl (fun _ => 0)))] t.heap ∧ va_D (va_A [(h0, .inr (3, [.null, .null, .null, .int 0]))] sz) [(h0, .inr (3, [.ref q1, .ref q2, .ref q3, .int 0])), (q1, .inl (cZ, 96, .inl (fun _ => 0))), (q2, .inl (cZ, 96, .inl (fun _ => 0))), (q3, .inl (cI, 96, .inl (fun _ => 0)))]) (va_A [(h0, .inr (3, [.null, .null, .null, .int 0]))] sz)) 3 288 (va_A [(h0, .inr (3, [.null, .null, .null, .int 0]))] sz) := by
  refine Met.ofW (cc := prog_5_method_1_code) (maxL := 1) (ret := none) (by decide) rfl ?_
  intro p e s m args below meth c s₁ B hml hv
  obtain ⟨rfl, hsz, hP, hK, hD0⟩ := hv
  have hx := B.exec
  have hb := B.bytes
  have hr := B.returns
  have hts := atoms_spec (ws := kW_Pile :: gw) B.pre
  have hgw := fun (w : Cond) (hw : w ∈ gw) => hts w (List.mem_cons_of_mem _ hw)
  have hown : s.vm.findClass "StoneWorks$Pile" = some m.cls := findClass_of_methodNamed B.named
  have hlocks := B.notSynchronized
  have hin : meth.name = "<init>" := (name_of_methodNamed B.named B.method).1
  subst hsz
  have hD := hD0.self (sz := s.heap.size)
  generalize hAe : va_A [(h0, .inr (3, [.null, .null, .null, .int 0]))] s.heap.size = A at hD ⊢
  have hA : ∀ q : Nat, s.heap.size ≤ q → A q := fun q h => by rw [← hAe]; exact Or.inr h
  have hS : va_S A s.heap s.heap [] := va_S.rf
  have hP : va_P D classes [(h0, .inr (3, [.null, .null, .null, .int 0]))] s.heap := hP
  have hl := lv_entry ([.ref h0]) (n := 1) (Nat.le_of_ble_eq_true rfl)
  rw [lg_entry_eq]
  generalize (lg_sl ([.ref h0]) ++ List.replicate (1 - (lg_sl ([.ref h0])).length) Slot.unset).toArray = ls at hl ⊢
  have hl : lv_has ls 1 [(0, .ref h0)] := hl
  refine lv_aload_n hx hb dq_Pile_0 rfl (lv_at hl 0 rfl) ?_
  refine W.objInit hx hb hown (hgw _ ko_Pile) (hgw _ w_oi) (hgw _ w_oc) rfl (by rw [hml]; exact hl.1) rfl dq_Pile_1 (Nat.le_of_ble_eq_true rfl) (Nat.le_of_ble_eq_true rfl) ?_
  refine W.eq (g2 := F0 m 4 ls []) rfl ?_
  refine lv_aload_n hx hb dq_Pile_4 rfl (lv_at hl 0 rfl) ?_
  refine lv_bipush (v := 96) hx hb dq_Pile_5 (by decide) ?_
  refine va_newZ (N := 96) hx hb (hgw _ w_aZ) hK hP hD hS hA (by decide) rfl (Nat.le_of_ble_eq_true rfl) (Nat.le_of_ble_eq_true rfl) (Nat.le_of_ble_eq_true rfl) dq_Pile_7 (fun q1 H hP hD hS => ?_)
  have hP : va_P D classes [(h0, .inr (3, [.null, .null, .null, .int 0])), (q1, .inl (cZ, 96, .inl (fun _ => 0)))] H := hP
  have hD : va_D A [(h0, .inr (3, [.null, .null, .null, .int 0])), (q1, .inl (cZ, 96, .inl (fun _ => 0)))] := hD
  refine W.widen (k := 1) (n := 96) (by omega) (by omega) ?_
  refine va_putF (D := D) (ci := 3) (v := .ref q1) (ty := .array .boolean) (C := RX3) (T := TX3) (N := 4) hx hb hgw (uw (q := 14) rfl rfl rfl) tyX3 tyX3_ok nmX3 hown hK hP hD hS 0 rfl rfl 0 (by decide) (show (Cond.fieldLink "StoneWorks$Pile" 11 "StoneWorks$Pile" "lies" "[Z").before _ s = true from hgw _ (fl_in (4, 11, 3, 0) (by decide))) (fun _ h9 => h9) rfl hin rfl (by decide +kernel) rfl rfl (Nat.le_of_ble_eq_true rfl) dq_Pile_9 (fun H locs hP hD hS => ?_)
  have hP : va_P D classes [(h0, .inr (3, [.ref q1, .null, .null, .int 0])), (q1, .inl (cZ, 96, .inl (fun _ => 0)))] H := hP
  have hD : va_D A [(h0, .inr (3, [.ref q1, .null, .null, .int 0])), (q1, .inl (cZ, 96, .inl (fun _ => 0)))] := hD
  refine lv_aload_n hx hb dq_Pile_12 rfl (lv_at hl 0 rfl) ?_
  refine lv_bipush (v := 96) hx hb dq_Pile_13 (by decide) ?_
  refine va_newZ (N := 96) hx hb (hgw _ w_aZ) hK hP hD hS hA (by decide) rfl (Nat.le_of_ble_eq_true rfl) (Nat.le_of_ble_eq_true rfl) (Nat.le_of_ble_eq_true rfl) dq_Pile_15 (fun q2 H hP hD hS => ?_)
  have hP : va_P D classes [(h0, .inr (3, [.ref q1, .null, .null, .int 0])), (q1, .inl (cZ, 96, .inl (fun _ => 0))), (q2, .inl (cZ, 96, .inl (fun _ => 0)))] H := hP
  have hD : va_D A [(h0, .inr (3, [.ref q1, .null, .null, .int 0])), (q1, .inl (cZ, 96, .inl (fun _ => 0))), (q2, .inl (cZ, 96, .inl (fun _ => 0)))] := hD
  refine W.widen (k := 2) (n := 192) (by omega) (by omega) ?_
  refine va_putF (D := D) (ci := 3) (v := .ref q2) (ty := .array .boolean) (C := RX3) (T := TX3) (N := 4) hx hb hgw (uw (q := 14) rfl rfl rfl) tyX3 tyX3_ok nmX3 hown hK hP hD hS 0 rfl rfl 1 (by decide) (show (Cond.fieldLink "StoneWorks$Pile" 15 "StoneWorks$Pile" "stands" "[Z").before _ s = true from hgw _ (fl_in (4, 15, 3, 1) (by decide))) (fun _ h9 => h9) rfl hin rfl (by decide +kernel) rfl rfl (Nat.le_of_ble_eq_true rfl) dq_Pile_17 (fun H locs hP hD hS => ?_)
  have hP : va_P D classes [(h0, .inr (3, [.ref q1, .ref q2, .null, .int 0])), (q1, .inl (cZ, 96, .inl (fun _ => 0))), (q2, .inl (cZ, 96, .inl (fun _ => 0)))] H := hP
  have hD : va_D A [(h0, .inr (3, [.ref q1, .ref q2, .null, .int 0])), (q1, .inl (cZ, 96, .inl (fun _ => 0))), (q2, .inl (cZ, 96, .inl (fun _ => 0)))] := hD
  refine lv_aload_n hx hb dq_Pile_20 rfl (lv_at hl 0 rfl) ?_
  refine lv_bipush (v := 96) hx hb dq_Pile_21 (by decide) ?_
  refine va_newI (N := 96) hx hb (hgw _ w_aI) hK hP hD hS hA (by decide) rfl (Nat.le_of_ble_eq_true rfl) (Nat.le_of_ble_eq_true rfl) (Nat.le_of_ble_eq_true rfl) dq_Pile_23 (fun q3 H hP hD hS => ?_)
  have hP : va_P D classes [(h0, .inr (3, [.ref q1, .ref q2, .null, .int 0])), (q1, .inl (cZ, 96, .inl (fun _ => 0))), (q2, .inl (cZ, 96, .inl (fun _ => 0))), (q3, .inl (cI, 96, .inl (fun _ => 0)))] H := hP
  have hD : va_D A [(h0, .inr (3, [.ref q1, .ref q2, .null, .int 0])), (q1, .inl (cZ, 96, .inl (fun _ => 0))), (q2, .inl (cZ, 96, .inl (fun _ => 0))), (q3, .inl (cI, 96, .inl (fun _ => 0)))] := hD
  refine W.widen (k := 3) (n := 288) (by omega) (by omega) ?_
  refine va_putF (D := D) (ci := 3) (v := .ref q3) (ty := .array .int) (C := RX3) (T := TX3) (N := 4) hx hb hgw (uw (q := 14) rfl rfl rfl) tyX3 tyX3_ok nmX3 hown hK hP hD hS 0 rfl rfl 2 (by decide) (show (Cond.fieldLink "StoneWorks$Pile" 18 "StoneWorks$Pile" "turns" "[I").before _ s = true from hgw _ (fl_in (4, 18, 3, 2) (by decide))) (fun _ h9 => h9) rfl hin rfl (by decide +kernel) rfl rfl (Nat.le_of_ble_eq_true rfl) dq_Pile_25 (fun H locs hP hD hS => ?_)
  have hP : va_P D classes [(h0, .inr (3, [.ref q1, .ref q2, .ref q3, .int 0])), (q1, .inl (cZ, 96, .inl (fun _ => 0))), (q2, .inl (cZ, 96, .inl (fun _ => 0))), (q3, .inl (cI, 96, .inl (fun _ => 0)))] H := hP
  have hD : va_D A [(h0, .inr (3, [.ref q1, .ref q2, .ref q3, .int 0])), (q1, .inl (cZ, 96, .inl (fun _ => 0))), (q2, .inl (cZ, 96, .inl (fun _ => 0))), (q3, .inl (cI, 96, .inl (fun _ => 0)))] := hD
  refine lv_aload_n hx hb dq_Pile_28 rfl (lv_at hl 0 rfl) ?_
  refine lv_iconst (v := 0) hx hb dq_Pile_29 (by decide) ?_
  refine va_put (D := D) (ci := 3) (v := .int 0) (ty := .int) (C := RX3) (T := TX3) (N := 4) hx hb hgw (uw (q := 14) rfl rfl rfl) tyX3 tyX3_ok nmX3 hown hK hP hD hS 0 rfl rfl 3 (by decide) (show (Cond.fieldLink "StoneWorks$Pile" 22 "StoneWorks$Pile" "blocks" "I").before _ s = true from hgw _ (fl_in (4, 22, 3, 3) (by decide))) (fun _ h9 => h9) rfl (by decide +kernel) rfl rfl (Nat.le_of_ble_eq_true rfl) dq_Pile_30 (fun H locs hP hD hS => ?_)
  have hP : va_P D classes [(h0, .inr (3, [.ref q1, .ref q2, .ref q3, .int 0])), (q1, .inl (cZ, 96, .inl (fun _ => 0))), (q2, .inl (cZ, 96, .inl (fun _ => 0))), (q3, .inl (cI, 96, .inl (fun _ => 0)))] H := hP
  have hD : va_D A [(h0, .inr (3, [.ref q1, .ref q2, .ref q3, .int 0])), (q1, .inl (cZ, 96, .inl (fun _ => 0))), (q2, .inl (cZ, 96, .inl (fun _ => 0))), (q3, .inl (cI, 96, .inl (fun _ => 0)))] := hD
  exact W.vret hx hb hr (fun t ht hW => ⟨⟨(), rfl, trivial, q1, q2, q3, by rw [ht]; exact hP, hD⟩, hS.F ht⟩) hS.2.2 dq_Pile_33
set_option maxHeartbeats 8000000 in
set_option maxRecDepth 100000 in
theorem k_Quarry (l : Launch) (D : va_G) (cI cZ : ClassId) (h0 sz : Nat) : Met l yk_Quarry (kW_Quarry :: gw) ({ frames := 1, cells := 4, slots := 23, locals := 12 }) (va_Pc [.ref h0] (fun U => U.heap.size = sz ∧ va_P D classes [(h0, .inr (4, [.null, .null, .null, .null, .int 0]))] U.heap ∧ va_K D classes (tyc cI cZ) U ∧ va_D (fun _ => True) [(h0, .inr (4, [.null, .null, .null, .null, .int 0]))])) (va_Qv (fun _ : Unit => True) (fun _ t => ∃ q1 q2 q3 q4 : Nat, va_P D classes [(h0, .inr (4, [.ref q1, .ref q2, .ref q3, .ref q4, .int 0])), (q1, .inl (cI, 4, .inl (fun _ => 0))), (q2, .inl (cI, 3, .inl (fun _ => 0))), (q3, .inl (cI, 4, .inl (fun _ => 0))), (q4, .inl (cI, 12, .inl (fun _ => 0)))] t.heap ∧ va_D (va_A [(h0, .inr (4, [.null, .null, .null, .null, .int 0]))] sz) [(h0, .inr (4, [.ref q1, .ref q2, .ref q3, .ref q4, .int 0])), (q1, .inl (cI, 4, .inl (fun _ => 0))), (q2, .inl (cI, 3, .inl (fun _ => 0))), (q3, .inl (cI, 4, .inl (fun _ => 0))), (q4, .inl (cI, 12, .inl (fun _ => 0)))]) (va_A [(h0, .inr (4, [.null, .null, .null, .null, .int 0]))] sz)) 4 23 (va_A [(h0, .inr (4, [.null, .null, .null, .null, .int 0]))] sz) := by
  refine Met.ofW (cc := prog_6_method_1_code) (maxL := 1) (ret := none) (by decide) rfl ?_
  intro p e s m args below meth c s₁ B hml hv
  obtain ⟨rfl, hsz, hP, hK, hD0⟩ := hv
  have hx := B.exec
  have hb := B.bytes
  have hr := B.returns
  have hts := atoms_spec (ws := kW_Quarry :: gw) B.pre
  have hgw := fun (w : Cond) (hw : w ∈ gw) => hts w (List.mem_cons_of_mem _ hw)
  have hown : s.vm.findClass "StoneWorks$Quarry" = some m.cls := findClass_of_methodNamed B.named
  have hlocks := B.notSynchronized
  have hin : meth.name = "<init>" := (name_of_methodNamed B.named B.method).1
  subst hsz
  have hD := hD0.self (sz := s.heap.size)
  generalize hAe : va_A [(h0, .inr (4, [.null, .null, .null, .null, .int 0]))] s.heap.size = A at hD ⊢
  have hA : ∀ q : Nat, s.heap.size ≤ q → A q := fun q h => by rw [← hAe]; exact Or.inr h
  have hS : va_S A s.heap s.heap [] := va_S.rf
  have hP : va_P D classes [(h0, .inr (4, [.null, .null, .null, .null, .int 0]))] s.heap := hP
  have hl := lv_entry ([.ref h0]) (n := 1) (Nat.le_of_ble_eq_true rfl)
  rw [lg_entry_eq]
  generalize (lg_sl ([.ref h0]) ++ List.replicate (1 - (lg_sl ([.ref h0])).length) Slot.unset).toArray = ls at hl ⊢
  have hl : lv_has ls 1 [(0, .ref h0)] := hl
  refine lv_aload_n hx hb dq_Quarry_0 rfl (lv_at hl 0 rfl) ?_
  refine W.objInit hx hb hown (hgw _ ko_Quarry) (hgw _ w_oi) (hgw _ w_oc) rfl (by rw [hml]; exact hl.1) rfl dq_Quarry_1 (Nat.le_of_ble_eq_true rfl) (Nat.le_of_ble_eq_true rfl) ?_
  refine W.eq (g2 := F0 m 4 ls []) rfl ?_
  refine lv_aload_n hx hb dq_Quarry_4 rfl (lv_at hl 0 rfl) ?_
  refine lv_iconst (v := 4) hx hb dq_Quarry_5 (by decide) ?_
  refine va_newI (N := 4) hx hb (hgw _ w_aI) hK hP hD hS hA (by decide) rfl (Nat.le_of_ble_eq_true rfl) (Nat.le_of_ble_eq_true rfl) (Nat.le_of_ble_eq_true rfl) dq_Quarry_6 (fun q1 H hP hD hS => ?_)
  have hP : va_P D classes [(h0, .inr (4, [.null, .null, .null, .null, .int 0])), (q1, .inl (cI, 4, .inl (fun _ => 0)))] H := hP
  have hD : va_D A [(h0, .inr (4, [.null, .null, .null, .null, .int 0])), (q1, .inl (cI, 4, .inl (fun _ => 0)))] := hD
  refine W.widen (k := 1) (n := 4) (by omega) (by omega) ?_
  refine va_putF (D := D) (ci := 4) (v := .ref q1) (ty := .array .int) (C := RX4) (T := TX4) (N := 5) hx hb hgw (uw (q := 9) rfl rfl rfl) tyX4 tyX4_ok nmX4 hown hK hP hD hS 0 rfl rfl 0 (by decide) (show (Cond.fieldLink "StoneWorks$Quarry" 9 "StoneWorks$Quarry" "yields" "[I").before _ s = true from hgw _ (fl_in (5, 9, 4, 0) (by decide))) (fun _ h9 => h9) rfl hin rfl (by decide +kernel) rfl rfl (Nat.le_of_ble_eq_true rfl) dq_Quarry_8 (fun H locs hP hD hS => ?_)
  have hP : va_P D classes [(h0, .inr (4, [.ref q1, .null, .null, .null, .int 0])), (q1, .inl (cI, 4, .inl (fun _ => 0)))] H := hP
  have hD : va_D A [(h0, .inr (4, [.ref q1, .null, .null, .null, .int 0])), (q1, .inl (cI, 4, .inl (fun _ => 0)))] := hD
  refine lv_aload_n hx hb dq_Quarry_11 rfl (lv_at hl 0 rfl) ?_
  refine lv_iconst (v := 3) hx hb dq_Quarry_12 (by decide) ?_
  refine va_newI (N := 3) hx hb (hgw _ w_aI) hK hP hD hS hA (by decide) rfl (Nat.le_of_ble_eq_true rfl) (Nat.le_of_ble_eq_true rfl) (Nat.le_of_ble_eq_true rfl) dq_Quarry_13 (fun q2 H hP hD hS => ?_)
  have hP : va_P D classes [(h0, .inr (4, [.ref q1, .null, .null, .null, .int 0])), (q1, .inl (cI, 4, .inl (fun _ => 0))), (q2, .inl (cI, 3, .inl (fun _ => 0)))] H := hP
  have hD : va_D A [(h0, .inr (4, [.ref q1, .null, .null, .null, .int 0])), (q1, .inl (cI, 4, .inl (fun _ => 0))), (q2, .inl (cI, 3, .inl (fun _ => 0)))] := hD
  refine W.widen (k := 2) (n := 7) (by omega) (by omega) ?_
  refine va_putF (D := D) (ci := 4) (v := .ref q2) (ty := .array .int) (C := RX4) (T := TX4) (N := 5) hx hb hgw (uw (q := 9) rfl rfl rfl) tyX4 tyX4_ok nmX4 hown hK hP hD hS 0 rfl rfl 1 (by decide) (show (Cond.fieldLink "StoneWorks$Quarry" 13 "StoneWorks$Quarry" "needs" "[I").before _ s = true from hgw _ (fl_in (5, 13, 4, 1) (by decide))) (fun _ h9 => h9) rfl hin rfl (by decide +kernel) rfl rfl (Nat.le_of_ble_eq_true rfl) dq_Quarry_15 (fun H locs hP hD hS => ?_)
  have hP : va_P D classes [(h0, .inr (4, [.ref q1, .ref q2, .null, .null, .int 0])), (q1, .inl (cI, 4, .inl (fun _ => 0))), (q2, .inl (cI, 3, .inl (fun _ => 0)))] H := hP
  have hD : va_D A [(h0, .inr (4, [.ref q1, .ref q2, .null, .null, .int 0])), (q1, .inl (cI, 4, .inl (fun _ => 0))), (q2, .inl (cI, 3, .inl (fun _ => 0)))] := hD
  refine lv_aload_n hx hb dq_Quarry_18 rfl (lv_at hl 0 rfl) ?_
  refine lv_iconst (v := 4) hx hb dq_Quarry_19 (by decide) ?_
  refine va_newI (N := 4) hx hb (hgw _ w_aI) hK hP hD hS hA (by decide) rfl (Nat.le_of_ble_eq_true rfl) (Nat.le_of_ble_eq_true rfl) (Nat.le_of_ble_eq_true rfl) dq_Quarry_20 (fun q3 H hP hD hS => ?_)
  have hP : va_P D classes [(h0, .inr (4, [.ref q1, .ref q2, .null, .null, .int 0])), (q1, .inl (cI, 4, .inl (fun _ => 0))), (q2, .inl (cI, 3, .inl (fun _ => 0))), (q3, .inl (cI, 4, .inl (fun _ => 0)))] H := hP
  have hD : va_D A [(h0, .inr (4, [.ref q1, .ref q2, .null, .null, .int 0])), (q1, .inl (cI, 4, .inl (fun _ => 0))), (q2, .inl (cI, 3, .inl (fun _ => 0))), (q3, .inl (cI, 4, .inl (fun _ => 0)))] := hD
  refine W.widen (k := 3) (n := 11) (by omega) (by omega) ?_
  refine va_putF (D := D) (ci := 4) (v := .ref q3) (ty := .array .int) (C := RX4) (T := TX4) (N := 5) hx hb hgw (uw (q := 9) rfl rfl rfl) tyX4 tyX4_ok nmX4 hown hK hP hD hS 0 rfl rfl 2 (by decide) (show (Cond.fieldLink "StoneWorks$Quarry" 16 "StoneWorks$Quarry" "takers" "[I").before _ s = true from hgw _ (fl_in (5, 16, 4, 2) (by decide))) (fun _ h9 => h9) rfl hin rfl (by decide +kernel) rfl rfl (Nat.le_of_ble_eq_true rfl) dq_Quarry_22 (fun H locs hP hD hS => ?_)
  have hP : va_P D classes [(h0, .inr (4, [.ref q1, .ref q2, .ref q3, .null, .int 0])), (q1, .inl (cI, 4, .inl (fun _ => 0))), (q2, .inl (cI, 3, .inl (fun _ => 0))), (q3, .inl (cI, 4, .inl (fun _ => 0)))] H := hP
  have hD : va_D A [(h0, .inr (4, [.ref q1, .ref q2, .ref q3, .null, .int 0])), (q1, .inl (cI, 4, .inl (fun _ => 0))), (q2, .inl (cI, 3, .inl (fun _ => 0))), (q3, .inl (cI, 4, .inl (fun _ => 0)))] := hD
  refine lv_aload_n hx hb dq_Quarry_25 rfl (lv_at hl 0 rfl) ?_
  refine lv_bipush (v := 12) hx hb dq_Quarry_26 (by decide) ?_
  refine va_newI (N := 12) hx hb (hgw _ w_aI) hK hP hD hS hA (by decide) rfl (Nat.le_of_ble_eq_true rfl) (Nat.le_of_ble_eq_true rfl) (Nat.le_of_ble_eq_true rfl) dq_Quarry_28 (fun q4 H hP hD hS => ?_)
  have hP : va_P D classes [(h0, .inr (4, [.ref q1, .ref q2, .ref q3, .null, .int 0])), (q1, .inl (cI, 4, .inl (fun _ => 0))), (q2, .inl (cI, 3, .inl (fun _ => 0))), (q3, .inl (cI, 4, .inl (fun _ => 0))), (q4, .inl (cI, 12, .inl (fun _ => 0)))] H := hP
  have hD : va_D A [(h0, .inr (4, [.ref q1, .ref q2, .ref q3, .null, .int 0])), (q1, .inl (cI, 4, .inl (fun _ => 0))), (q2, .inl (cI, 3, .inl (fun _ => 0))), (q3, .inl (cI, 4, .inl (fun _ => 0))), (q4, .inl (cI, 12, .inl (fun _ => 0)))] := hD
  refine W.widen (k := 4) (n := 23) (by omega) (by omega) ?_
  refine va_putF (D := D) (ci := 4) (v := .ref q4) (ty := .array .int) (C := RX4) (T := TX4) (N := 5) hx hb hgw (uw (q := 9) rfl rfl rfl) tyX4 tyX4_ok nmX4 hown hK hP hD hS 0 rfl rfl 3 (by decide) (show (Cond.fieldLink "StoneWorks$Quarry" 19 "StoneWorks$Quarry" "given" "[I").before _ s = true from hgw _ (fl_in (5, 19, 4, 3) (by decide))) (fun _ h9 => h9) rfl hin rfl (by decide +kernel) rfl rfl (Nat.le_of_ble_eq_true rfl) dq_Quarry_30 (fun H locs hP hD hS => ?_)
  have hP : va_P D classes [(h0, .inr (4, [.ref q1, .ref q2, .ref q3, .ref q4, .int 0])), (q1, .inl (cI, 4, .inl (fun _ => 0))), (q2, .inl (cI, 3, .inl (fun _ => 0))), (q3, .inl (cI, 4, .inl (fun _ => 0))), (q4, .inl (cI, 12, .inl (fun _ => 0)))] H := hP
  have hD : va_D A [(h0, .inr (4, [.ref q1, .ref q2, .ref q3, .ref q4, .int 0])), (q1, .inl (cI, 4, .inl (fun _ => 0))), (q2, .inl (cI, 3, .inl (fun _ => 0))), (q3, .inl (cI, 4, .inl (fun _ => 0))), (q4, .inl (cI, 12, .inl (fun _ => 0)))] := hD
  refine lv_aload_n hx hb dq_Quarry_33 rfl (lv_at hl 0 rfl) ?_
  refine lv_iconst (v := 0) hx hb dq_Quarry_34 (by decide) ?_
  refine va_put (D := D) (ci := 4) (v := .int 0) (ty := .int) (C := RX4) (T := TX4) (N := 5) hx hb hgw (uw (q := 9) rfl rfl rfl) tyX4 tyX4_ok nmX4 hown hK hP hD hS 0 rfl rfl 4 (by decide) (show (Cond.fieldLink "StoneWorks$Quarry" 22 "StoneWorks$Quarry" "waste" "I").before _ s = true from hgw _ (fl_in (5, 22, 4, 4) (by decide))) (fun _ h9 => h9) rfl (by decide +kernel) rfl rfl (Nat.le_of_ble_eq_true rfl) dq_Quarry_35 (fun H locs hP hD hS => ?_)
  have hP : va_P D classes [(h0, .inr (4, [.ref q1, .ref q2, .ref q3, .ref q4, .int 0])), (q1, .inl (cI, 4, .inl (fun _ => 0))), (q2, .inl (cI, 3, .inl (fun _ => 0))), (q3, .inl (cI, 4, .inl (fun _ => 0))), (q4, .inl (cI, 12, .inl (fun _ => 0)))] H := hP
  have hD : va_D A [(h0, .inr (4, [.ref q1, .ref q2, .ref q3, .ref q4, .int 0])), (q1, .inl (cI, 4, .inl (fun _ => 0))), (q2, .inl (cI, 3, .inl (fun _ => 0))), (q3, .inl (cI, 4, .inl (fun _ => 0))), (q4, .inl (cI, 12, .inl (fun _ => 0)))] := hD
  exact W.vret hx hb hr (fun t ht hW => ⟨⟨(), rfl, trivial, q1, q2, q3, q4, by rw [ht]; exact hP, hD⟩, hS.F ht⟩) hS.2.2 dq_Quarry_38
set_option maxHeartbeats 8000000 in
set_option maxRecDepth 100000 in
theorem k_Surveys (l : Launch) (D : va_G) (cI cZ : ClassId) (h0 sz : Nat) : Met l yk_Surveys (kW_Surveys :: gw) ({ frames := 1, cells := 2, slots := 200, locals := 12 }) (va_Pc [.ref h0] (fun U => U.heap.size = sz ∧ va_P D classes [(h0, .inr (6, [.null, .null, .int 0, .int 0, .int 0, .int 0, .int 0]))] U.heap ∧ va_K D classes (tyc cI cZ) U ∧ va_D (fun _ => True) [(h0, .inr (6, [.null, .null, .int 0, .int 0, .int 0, .int 0, .int 0]))])) (va_Qv (fun _ : Unit => True) (fun _ t => ∃ q1 q2 : Nat, va_P D classes [(h0, .inr (6, [.ref q1, .ref q2, .int 0, .int 0, .int 0, .int 0, .int 0])), (q1, .inl (cZ, 100, .inl (fun _ => 0))), (q2, .inl (cI, 100, .inl (fun _ => 0)))] t.heap ∧ va_D (va_A [(h0, .inr (6, [.null, .null, .int 0, .int 0, .int 0, .int 0, .int 0]))] sz) [(h0, .inr (6, [.ref q1, .ref q2, .int 0, .int 0, .int 0, .int 0, .int 0])), (q1, .inl (cZ, 100, .inl (fun _ => 0))), (q2, .inl (cI, 100, .inl (fun _ => 0)))]) (va_A [(h0, .inr (6, [.null, .null, .int 0, .int 0, .int 0, .int 0, .int 0]))] sz)) 2 200 (va_A [(h0, .inr (6, [.null, .null, .int 0, .int 0, .int 0, .int 0, .int 0]))] sz) := by
  refine Met.ofW (cc := prog_8_method_1_code) (maxL := 1) (ret := none) (by decide) rfl ?_
  intro p e s m args below meth c s₁ B hml hv
  obtain ⟨rfl, hsz, hP, hK, hD0⟩ := hv
  have hx := B.exec
  have hb := B.bytes
  have hr := B.returns
  have hts := atoms_spec (ws := kW_Surveys :: gw) B.pre
  have hgw := fun (w : Cond) (hw : w ∈ gw) => hts w (List.mem_cons_of_mem _ hw)
  have hown : s.vm.findClass "StoneWorks$Surveys" = some m.cls := findClass_of_methodNamed B.named
  have hlocks := B.notSynchronized
  have hin : meth.name = "<init>" := (name_of_methodNamed B.named B.method).1
  subst hsz
  have hD := hD0.self (sz := s.heap.size)
  generalize hAe : va_A [(h0, .inr (6, [.null, .null, .int 0, .int 0, .int 0, .int 0, .int 0]))] s.heap.size = A at hD ⊢
  have hA : ∀ q : Nat, s.heap.size ≤ q → A q := fun q h => by rw [← hAe]; exact Or.inr h
  have hS : va_S A s.heap s.heap [] := va_S.rf
  have hP : va_P D classes [(h0, .inr (6, [.null, .null, .int 0, .int 0, .int 0, .int 0, .int 0]))] s.heap := hP
  have hl := lv_entry ([.ref h0]) (n := 1) (Nat.le_of_ble_eq_true rfl)
  rw [lg_entry_eq]
  generalize (lg_sl ([.ref h0]) ++ List.replicate (1 - (lg_sl ([.ref h0])).length) Slot.unset).toArray = ls at hl ⊢
  have hl : lv_has ls 1 [(0, .ref h0)] := hl
  refine lv_aload_n hx hb dq_Surveys_0 rfl (lv_at hl 0 rfl) ?_
  refine W.objInit hx hb hown (hgw _ ko_Surveys) (hgw _ w_oi) (hgw _ w_oc) rfl (by rw [hml]; exact hl.1) rfl dq_Surveys_1 (Nat.le_of_ble_eq_true rfl) (Nat.le_of_ble_eq_true rfl) ?_
  refine W.eq (g2 := F0 m 4 ls []) rfl ?_
  refine lv_aload_n hx hb dq_Surveys_4 rfl (lv_at hl 0 rfl) ?_
  refine lv_bipush (v := 100) hx hb dq_Surveys_5 (by decide) ?_
  refine va_newZ (N := 100) hx hb (hgw _ w_aZ) hK hP hD hS hA (by decide) rfl (Nat.le_of_ble_eq_true rfl) (Nat.le_of_ble_eq_true rfl) (Nat.le_of_ble_eq_true rfl) dq_Surveys_7 (fun q1 H hP hD hS => ?_)
  have hP : va_P D classes [(h0, .inr (6, [.null, .null, .int 0, .int 0, .int 0, .int 0, .int 0])), (q1, .inl (cZ, 100, .inl (fun _ => 0)))] H := hP
  have hD : va_D A [(h0, .inr (6, [.null, .null, .int 0, .int 0, .int 0, .int 0, .int 0])), (q1, .inl (cZ, 100, .inl (fun _ => 0)))] := hD
  refine W.widen (k := 1) (n := 100) (by omega) (by omega) ?_
  refine va_putF (D := D) (ci := 6) (v := .ref q1) (ty := .array .boolean) (C := RX6) (T := TX6) (N := 7) hx hb hgw (uw (q := 21) rfl rfl rfl) tyX6 tyX6_ok nmX6 hown hK hP hD hS 0 rfl rfl 0 (by decide) (show (Cond.fieldLink "StoneWorks$Surveys" 11 "StoneWorks$Surveys" "isLost" "[Z").before _ s = true from hgw _ (fl_in (7, 11, 6, 0) (by decide))) (fun _ h9 => h9) rfl hin rfl (by decide +kernel) rfl rfl (Nat.le_of_ble_eq_true rfl) dq_Surveys_9 (fun H locs hP hD hS => ?_)
  have hP : va_P D classes [(h0, .inr (6, [.ref q1, .null, .int 0, .int 0, .int 0, .int 0, .int 0])), (q1, .inl (cZ, 100, .inl (fun _ => 0)))] H := hP
  have hD : va_D A [(h0, .inr (6, [.ref q1, .null, .int 0, .int 0, .int 0, .int 0, .int 0])), (q1, .inl (cZ, 100, .inl (fun _ => 0)))] := hD
  refine lv_aload_n hx hb dq_Surveys_12 rfl (lv_at hl 0 rfl) ?_
  refine lv_bipush (v := 100) hx hb dq_Surveys_13 (by decide) ?_
  refine va_newI (N := 100) hx hb (hgw _ w_aI) hK hP hD hS hA (by decide) rfl (Nat.le_of_ble_eq_true rfl) (Nat.le_of_ble_eq_true rfl) (Nat.le_of_ble_eq_true rfl) dq_Surveys_15 (fun q2 H hP hD hS => ?_)
  have hP : va_P D classes [(h0, .inr (6, [.ref q1, .null, .int 0, .int 0, .int 0, .int 0, .int 0])), (q1, .inl (cZ, 100, .inl (fun _ => 0))), (q2, .inl (cI, 100, .inl (fun _ => 0)))] H := hP
  have hD : va_D A [(h0, .inr (6, [.ref q1, .null, .int 0, .int 0, .int 0, .int 0, .int 0])), (q1, .inl (cZ, 100, .inl (fun _ => 0))), (q2, .inl (cI, 100, .inl (fun _ => 0)))] := hD
  refine W.widen (k := 2) (n := 200) (by omega) (by omega) ?_
  refine va_putF (D := D) (ci := 6) (v := .ref q2) (ty := .array .int) (C := RX6) (T := TX6) (N := 7) hx hb hgw (uw (q := 21) rfl rfl rfl) tyX6 tyX6_ok nmX6 hown hK hP hD hS 0 rfl rfl 1 (by decide) (show (Cond.fieldLink "StoneWorks$Surveys" 15 "StoneWorks$Surveys" "patch" "[I").before _ s = true from hgw _ (fl_in (7, 15, 6, 1) (by decide))) (fun _ h9 => h9) rfl hin rfl (by decide +kernel) rfl rfl (Nat.le_of_ble_eq_true rfl) dq_Surveys_17 (fun H locs hP hD hS => ?_)
  have hP : va_P D classes [(h0, .inr (6, [.ref q1, .ref q2, .int 0, .int 0, .int 0, .int 0, .int 0])), (q1, .inl (cZ, 100, .inl (fun _ => 0))), (q2, .inl (cI, 100, .inl (fun _ => 0)))] H := hP
  have hD : va_D A [(h0, .inr (6, [.ref q1, .ref q2, .int 0, .int 0, .int 0, .int 0, .int 0])), (q1, .inl (cZ, 100, .inl (fun _ => 0))), (q2, .inl (cI, 100, .inl (fun _ => 0)))] := hD
  refine lv_aload_n hx hb dq_Surveys_20 rfl (lv_at hl 0 rfl) ?_
  refine lv_iconst (v := 0) hx hb dq_Surveys_21 (by decide) ?_
  refine va_put (D := D) (ci := 6) (v := .int 0) (ty := .int) (C := RX6) (T := TX6) (N := 7) hx hb hgw (uw (q := 21) rfl rfl rfl) tyX6 tyX6_ok nmX6 hown hK hP hD hS 0 rfl rfl 2 (by decide) (show (Cond.fieldLink "StoneWorks$Surveys" 19 "StoneWorks$Surveys" "filled" "I").before _ s = true from hgw _ (fl_in (7, 19, 6, 2) (by decide))) (fun _ h9 => h9) rfl (by decide +kernel) rfl rfl (Nat.le_of_ble_eq_true rfl) dq_Surveys_22 (fun H locs hP hD hS => ?_)
  have hP : va_P D classes [(h0, .inr (6, [.ref q1, .ref q2, .int 0, .int 0, .int 0, .int 0, .int 0])), (q1, .inl (cZ, 100, .inl (fun _ => 0))), (q2, .inl (cI, 100, .inl (fun _ => 0)))] H := hP
  have hD : va_D A [(h0, .inr (6, [.ref q1, .ref q2, .int 0, .int 0, .int 0, .int 0, .int 0])), (q1, .inl (cZ, 100, .inl (fun _ => 0))), (q2, .inl (cI, 100, .inl (fun _ => 0)))] := hD
  refine lv_aload_n hx hb dq_Surveys_25 rfl (lv_at hl 0 rfl) ?_
  refine lv_iconst (v := 0) hx hb dq_Surveys_26 (by decide) ?_
  refine va_put (D := D) (ci := 6) (v := .int 0) (ty := .int) (C := RX6) (T := TX6) (N := 7) hx hb hgw (uw (q := 21) rfl rfl rfl) tyX6 tyX6_ok nmX6 hown hK hP hD hS 0 rfl rfl 3 (by decide) (show (Cond.fieldLink "StoneWorks$Surveys" 23 "StoneWorks$Surveys" "lost" "I").before _ s = true from hgw _ (fl_in (7, 23, 6, 3) (by decide))) (fun _ h9 => h9) rfl (by decide +kernel) rfl rfl (Nat.le_of_ble_eq_true rfl) dq_Surveys_27 (fun H locs hP hD hS => ?_)
  have hP : va_P D classes [(h0, .inr (6, [.ref q1, .ref q2, .int 0, .int 0, .int 0, .int 0, .int 0])), (q1, .inl (cZ, 100, .inl (fun _ => 0))), (q2, .inl (cI, 100, .inl (fun _ => 0)))] H := hP
  have hD : va_D A [(h0, .inr (6, [.ref q1, .ref q2, .int 0, .int 0, .int 0, .int 0, .int 0])), (q1, .inl (cZ, 100, .inl (fun _ => 0))), (q2, .inl (cI, 100, .inl (fun _ => 0)))] := hD
  refine lv_aload_n hx hb dq_Surveys_30 rfl (lv_at hl 0 rfl) ?_
  refine lv_iconst (v := 0) hx hb dq_Surveys_31 (by decide) ?_
  refine va_put (D := D) (ci := 6) (v := .int 0) (ty := .int) (C := RX6) (T := TX6) (N := 7) hx hb hgw (uw (q := 21) rfl rfl rfl) tyX6 tyX6_ok nmX6 hown hK hP hD hS 0 rfl rfl 4 (by decide) (show (Cond.fieldLink "StoneWorks$Surveys" 26 "StoneWorks$Surveys" "heaped" "I").before _ s = true from hgw _ (fl_in (7, 26, 6, 4) (by decide))) (fun _ h9 => h9) rfl (by decide +kernel) rfl rfl (Nat.le_of_ble_eq_true rfl) dq_Surveys_32 (fun H locs hP hD hS => ?_)
  have hP : va_P D classes [(h0, .inr (6, [.ref q1, .ref q2, .int 0, .int 0, .int 0, .int 0, .int 0])), (q1, .inl (cZ, 100, .inl (fun _ => 0))), (q2, .inl (cI, 100, .inl (fun _ => 0)))] H := hP
  have hD : va_D A [(h0, .inr (6, [.ref q1, .ref q2, .int 0, .int 0, .int 0, .int 0, .int 0])), (q1, .inl (cZ, 100, .inl (fun _ => 0))), (q2, .inl (cI, 100, .inl (fun _ => 0)))] := hD
  refine lv_aload_n hx hb dq_Surveys_35 rfl (lv_at hl 0 rfl) ?_
  refine lv_iconst (v := 0) hx hb dq_Surveys_36 (by decide) ?_
  refine va_put (D := D) (ci := 6) (v := .int 0) (ty := .int) (C := RX6) (T := TX6) (N := 7) hx hb hgw (uw (q := 21) rfl rfl rfl) tyX6 tyX6_ok nmX6 hown hK hP hD hS 0 rfl rfl 5 (by decide) (show (Cond.fieldLink "StoneWorks$Surveys" 29 "StoneWorks$Surveys" "patches" "I").before _ s = true from hgw _ (fl_in (7, 29, 6, 5) (by decide))) (fun _ h9 => h9) rfl (by decide +kernel) rfl rfl (Nat.le_of_ble_eq_true rfl) dq_Surveys_37 (fun H locs hP hD hS => ?_)
  have hP : va_P D classes [(h0, .inr (6, [.ref q1, .ref q2, .int 0, .int 0, .int 0, .int 0, .int 0])), (q1, .inl (cZ, 100, .inl (fun _ => 0))), (q2, .inl (cI, 100, .inl (fun _ => 0)))] H := hP
  have hD : va_D A [(h0, .inr (6, [.ref q1, .ref q2, .int 0, .int 0, .int 0, .int 0, .int 0])), (q1, .inl (cZ, 100, .inl (fun _ => 0))), (q2, .inl (cI, 100, .inl (fun _ => 0)))] := hD
  refine lv_aload_n hx hb dq_Surveys_40 rfl (lv_at hl 0 rfl) ?_
  refine lv_iconst (v := 0) hx hb dq_Surveys_41 (by decide) ?_
  refine va_put (D := D) (ci := 6) (v := .int 0) (ty := .int) (C := RX6) (T := TX6) (N := 7) hx hb hgw (uw (q := 21) rfl rfl rfl) tyX6 tyX6_ok nmX6 hown hK hP hD hS 0 rfl rfl 6 (by decide) (show (Cond.fieldLink "StoneWorks$Surveys" 32 "StoneWorks$Surveys" "largest" "I").before _ s = true from hgw _ (fl_in (7, 32, 6, 6) (by decide))) (fun _ h9 => h9) rfl (by decide +kernel) rfl rfl (Nat.le_of_ble_eq_true rfl) dq_Surveys_42 (fun H locs hP hD hS => ?_)
  have hP : va_P D classes [(h0, .inr (6, [.ref q1, .ref q2, .int 0, .int 0, .int 0, .int 0, .int 0])), (q1, .inl (cZ, 100, .inl (fun _ => 0))), (q2, .inl (cI, 100, .inl (fun _ => 0)))] H := hP
  have hD : va_D A [(h0, .inr (6, [.ref q1, .ref q2, .int 0, .int 0, .int 0, .int 0, .int 0])), (q1, .inl (cZ, 100, .inl (fun _ => 0))), (q2, .inl (cI, 100, .inl (fun _ => 0)))] := hD
  exact W.vret hx hb hr (fun t ht hW => ⟨⟨(), rfl, trivial, q1, q2, by rw [ht]; exact hP, hD⟩, hS.F ht⟩) hS.2.2 dq_Surveys_45
set_option maxHeartbeats 8000000 in
set_option maxRecDepth 100000 in
theorem k_Wall (l : Launch) (D : va_G) (cI cZ : ClassId) (h0 sz : Nat) : Met l yk_Wall (kW_Wall :: gw) ({ frames := 1, cells := 3, slots := 17, locals := 12 }) (va_Pc [.ref h0] (fun U => U.heap.size = sz ∧ va_P D classes [(h0, .inr (7, [.null, .null, .null, .int 0]))] U.heap ∧ va_K D classes (tyc cI cZ) U ∧ va_D (fun _ => True) [(h0, .inr (7, [.null, .null, .null, .int 0]))])) (va_Qv (fun _ : Unit => True) (fun _ t => ∃ q1 q2 q3 : Nat, va_P D classes [(h0, .inr (7, [.ref q1, .ref q2, .ref q3, .int 0])), (q1, .inl (cI, 5, .inl (upd (upd (upd (upd (upd (fun _ => 0) 0 20) 1 6) 2 15) 3 10) 4 15))), (q2, .inl (cI, 6, .inl (fun _ => 0))), (q3, .inl (cI, 6, .inl (fun _ => 0)))] t.heap ∧ va_D (va_A [(h0, .inr (7, [.null, .null, .null, .int 0]))] sz) [(h0, .inr (7, [.ref q1, .ref q2, .ref q3, .int 0])), (q1, .inl (cI, 5, .inl (upd (upd (upd (upd (upd (fun _ => 0) 0 20) 1 6) 2 15) 3 10) 4 15))), (q2, .inl (cI, 6, .inl (fun _ => 0))), (q3, .inl (cI, 6, .inl (fun _ => 0)))]) (va_A [(h0, .inr (7, [.null, .null, .null, .int 0]))] sz)) 3 17 (va_A [(h0, .inr (7, [.null, .null, .null, .int 0]))] sz) := by
  refine Met.ofW (cc := prog_9_method_1_code) (maxL := 1) (ret := none) (by decide) rfl ?_
  intro p e s m args below meth c s₁ B hml hv
  obtain ⟨rfl, hsz, hP, hK, hD0⟩ := hv
  have hx := B.exec
  have hb := B.bytes
  have hr := B.returns
  have hts := atoms_spec (ws := kW_Wall :: gw) B.pre
  have hgw := fun (w : Cond) (hw : w ∈ gw) => hts w (List.mem_cons_of_mem _ hw)
  have hown : s.vm.findClass "StoneWorks$Wall" = some m.cls := findClass_of_methodNamed B.named
  have hlocks := B.notSynchronized
  have hin : meth.name = "<init>" := (name_of_methodNamed B.named B.method).1
  subst hsz
  have hD := hD0.self (sz := s.heap.size)
  generalize hAe : va_A [(h0, .inr (7, [.null, .null, .null, .int 0]))] s.heap.size = A at hD ⊢
  have hA : ∀ q : Nat, s.heap.size ≤ q → A q := fun q h => by rw [← hAe]; exact Or.inr h
  have hS : va_S A s.heap s.heap [] := va_S.rf
  have hP : va_P D classes [(h0, .inr (7, [.null, .null, .null, .int 0]))] s.heap := hP
  have hl := lv_entry ([.ref h0]) (n := 1) (Nat.le_of_ble_eq_true rfl)
  rw [lg_entry_eq]
  generalize (lg_sl ([.ref h0]) ++ List.replicate (1 - (lg_sl ([.ref h0])).length) Slot.unset).toArray = ls at hl ⊢
  have hl : lv_has ls 1 [(0, .ref h0)] := hl
  refine lv_aload_n hx hb dq_Wall_0 rfl (lv_at hl 0 rfl) ?_
  refine W.objInit hx hb hown (hgw _ ko_Wall) (hgw _ w_oi) (hgw _ w_oc) rfl (by rw [hml]; exact hl.1) rfl dq_Wall_1 (Nat.le_of_ble_eq_true rfl) (Nat.le_of_ble_eq_true rfl) ?_
  refine W.eq (g2 := F0 m 4 ls []) rfl ?_
  refine lv_aload_n hx hb dq_Wall_4 rfl (lv_at hl 0 rfl) ?_
  refine lv_iconst (v := 5) hx hb dq_Wall_5 (by decide) ?_
  refine va_newI (N := 5) hx hb (hgw _ w_aI) hK hP hD hS hA (by decide) rfl (Nat.le_of_ble_eq_true rfl) (Nat.le_of_ble_eq_true rfl) (Nat.le_of_ble_eq_true rfl) dq_Wall_6 (fun q1 H hP hD hS => ?_)
  have hP : va_P D classes [(h0, .inr (7, [.null, .null, .null, .int 0])), (q1, .inl (cI, 5, .inl (fun _ => 0)))] H := hP
  have hD : va_D A [(h0, .inr (7, [.null, .null, .null, .int 0])), (q1, .inl (cI, 5, .inl (fun _ => 0)))] := hD
  refine W.widen (k := 1) (n := 5) (by omega) (by omega) ?_
  refine lv_dup hx hb dq_Wall_8 rfl ?_
  refine lv_iconst (v := 0) hx hb dq_Wall_9 (by decide) ?_
  refine lv_bipush (v := 20) hx hb dq_Wall_10 (by decide) ?_
  refine va_iast hx hb hK hP hD hS 1 0 rfl rfl (inI (by decide) (by decide)) dq_Wall_12 (fun H locs hP hD hS => ?_)
  have hP : va_P D classes [(h0, .inr (7, [.null, .null, .null, .int 0])), (q1, .inl (cI, 5, .inl (upd (fun _ => 0) 0 20)))] H := hP
  have hD : va_D A [(h0, .inr (7, [.null, .null, .null, .int 0])), (q1, .inl (cI, 5, .inl (upd (fun _ => 0) 0 20)))] := hD
  refine lv_dup hx hb dq_Wall_13 rfl ?_
  refine lv_iconst (v := 1) hx hb dq_Wall_14 (by decide) ?_
  refine lv_bipush (v := 6) hx hb dq_Wall_15 (by decide) ?_
  refine va_iast hx hb hK hP hD hS 1 0 rfl rfl (inI (by decide) (by decide)) dq_Wall_17 (fun H locs hP hD hS => ?_)
  have hP : va_P D classes [(h0, .inr (7, [.null, .null, .null, .int 0])), (q1, .inl (cI, 5, .inl (upd (upd (fun _ => 0) 0 20) 1 6)))] H := hP
  have hD : va_D A [(h0, .inr (7, [.null, .null, .null, .int 0])), (q1, .inl (cI, 5, .inl (upd (upd (fun _ => 0) 0 20) 1 6)))] := hD
  refine lv_dup hx hb dq_Wall_18 rfl ?_
  refine lv_iconst (v := 2) hx hb dq_Wall_19 (by decide) ?_
  refine lv_bipush (v := 15) hx hb dq_Wall_20 (by decide) ?_
  refine va_iast hx hb hK hP hD hS 1 0 rfl rfl (inI (by decide) (by decide)) dq_Wall_22 (fun H locs hP hD hS => ?_)
  have hP : va_P D classes [(h0, .inr (7, [.null, .null, .null, .int 0])), (q1, .inl (cI, 5, .inl (upd (upd (upd (fun _ => 0) 0 20) 1 6) 2 15)))] H := hP
  have hD : va_D A [(h0, .inr (7, [.null, .null, .null, .int 0])), (q1, .inl (cI, 5, .inl (upd (upd (upd (fun _ => 0) 0 20) 1 6) 2 15)))] := hD
  refine lv_dup hx hb dq_Wall_23 rfl ?_
  refine lv_iconst (v := 3) hx hb dq_Wall_24 (by decide) ?_
  refine lv_bipush (v := 10) hx hb dq_Wall_25 (by decide) ?_
  refine va_iast hx hb hK hP hD hS 1 0 rfl rfl (inI (by decide) (by decide)) dq_Wall_27 (fun H locs hP hD hS => ?_)
  have hP : va_P D classes [(h0, .inr (7, [.null, .null, .null, .int 0])), (q1, .inl (cI, 5, .inl (upd (upd (upd (upd (fun _ => 0) 0 20) 1 6) 2 15) 3 10)))] H := hP
  have hD : va_D A [(h0, .inr (7, [.null, .null, .null, .int 0])), (q1, .inl (cI, 5, .inl (upd (upd (upd (upd (fun _ => 0) 0 20) 1 6) 2 15) 3 10)))] := hD
  refine lv_dup hx hb dq_Wall_28 rfl ?_
  refine lv_iconst (v := 4) hx hb dq_Wall_29 (by decide) ?_
  refine lv_bipush (v := 15) hx hb dq_Wall_30 (by decide) ?_
  refine va_iast hx hb hK hP hD hS 1 0 rfl rfl (inI (by decide) (by decide)) dq_Wall_32 (fun H locs hP hD hS => ?_)
  have hP : va_P D classes [(h0, .inr (7, [.null, .null, .null, .int 0])), (q1, .inl (cI, 5, .inl (upd (upd (upd (upd (upd (fun _ => 0) 0 20) 1 6) 2 15) 3 10) 4 15)))] H := hP
  have hD : va_D A [(h0, .inr (7, [.null, .null, .null, .int 0])), (q1, .inl (cI, 5, .inl (upd (upd (upd (upd (upd (fun _ => 0) 0 20) 1 6) 2 15) 3 10) 4 15)))] := hD
  refine va_putF (D := D) (ci := 7) (v := .ref q1) (ty := .array .int) (C := RX7) (T := TX7) (N := 4) hx hb hgw (uw (q := 5) rfl rfl rfl) tyX7 tyX7_ok nmX7 hown hK hP hD hS 0 rfl rfl 0 (by decide) (show (Cond.fieldLink "StoneWorks$Wall" 9 "StoneWorks$Wall" "measures" "[I").before _ s = true from hgw _ (fl_in (8, 9, 7, 0) (by decide))) (fun _ h9 => h9) rfl hin rfl (by decide +kernel) rfl rfl (Nat.le_of_ble_eq_true rfl) dq_Wall_33 (fun H locs hP hD hS => ?_)
  have hP : va_P D classes [(h0, .inr (7, [.ref q1, .null, .null, .int 0])), (q1, .inl (cI, 5, .inl (upd (upd (upd (upd (upd (fun _ => 0) 0 20) 1 6) 2 15) 3 10) 4 15)))] H := hP
  have hD : va_D A [(h0, .inr (7, [.ref q1, .null, .null, .int 0])), (q1, .inl (cI, 5, .inl (upd (upd (upd (upd (upd (fun _ => 0) 0 20) 1 6) 2 15) 3 10) 4 15)))] := hD
  refine lv_aload_n hx hb dq_Wall_36 rfl (lv_at hl 0 rfl) ?_
  refine lv_bipush (v := 6) hx hb dq_Wall_37 (by decide) ?_
  refine va_newI (N := 6) hx hb (hgw _ w_aI) hK hP hD hS hA (by decide) rfl (Nat.le_of_ble_eq_true rfl) (Nat.le_of_ble_eq_true rfl) (Nat.le_of_ble_eq_true rfl) dq_Wall_39 (fun q2 H hP hD hS => ?_)
  have hP : va_P D classes [(h0, .inr (7, [.ref q1, .null, .null, .int 0])), (q1, .inl (cI, 5, .inl (upd (upd (upd (upd (upd (fun _ => 0) 0 20) 1 6) 2 15) 3 10) 4 15))), (q2, .inl (cI, 6, .inl (fun _ => 0)))] H := hP
  have hD : va_D A [(h0, .inr (7, [.ref q1, .null, .null, .int 0])), (q1, .inl (cI, 5, .inl (upd (upd (upd (upd (upd (fun _ => 0) 0 20) 1 6) 2 15) 3 10) 4 15))), (q2, .inl (cI, 6, .inl (fun _ => 0)))] := hD
  refine W.widen (k := 2) (n := 11) (by omega) (by omega) ?_
  refine va_putF (D := D) (ci := 7) (v := .ref q2) (ty := .array .int) (C := RX7) (T := TX7) (N := 4) hx hb hgw (uw (q := 5) rfl rfl rfl) tyX7 tyX7_ok nmX7 hown hK hP hD hS 0 rfl rfl 1 (by decide) (show (Cond.fieldLink "StoneWorks$Wall" 15 "StoneWorks$Wall" "thicks" "[I").before _ s = true from hgw _ (fl_in (8, 15, 7, 1) (by decide))) (fun _ h9 => h9) rfl hin rfl (by decide +kernel) rfl rfl (Nat.le_of_ble_eq_true rfl) dq_Wall_41 (fun H locs hP hD hS => ?_)
  have hP : va_P D classes [(h0, .inr (7, [.ref q1, .ref q2, .null, .int 0])), (q1, .inl (cI, 5, .inl (upd (upd (upd (upd (upd (fun _ => 0) 0 20) 1 6) 2 15) 3 10) 4 15))), (q2, .inl (cI, 6, .inl (fun _ => 0)))] H := hP
  have hD : va_D A [(h0, .inr (7, [.ref q1, .ref q2, .null, .int 0])), (q1, .inl (cI, 5, .inl (upd (upd (upd (upd (upd (fun _ => 0) 0 20) 1 6) 2 15) 3 10) 4 15))), (q2, .inl (cI, 6, .inl (fun _ => 0)))] := hD
  refine lv_aload_n hx hb dq_Wall_44 rfl (lv_at hl 0 rfl) ?_
  refine lv_bipush (v := 6) hx hb dq_Wall_45 (by decide) ?_
  refine va_newI (N := 6) hx hb (hgw _ w_aI) hK hP hD hS hA (by decide) rfl (Nat.le_of_ble_eq_true rfl) (Nat.le_of_ble_eq_true rfl) (Nat.le_of_ble_eq_true rfl) dq_Wall_47 (fun q3 H hP hD hS => ?_)
  have hP : va_P D classes [(h0, .inr (7, [.ref q1, .ref q2, .null, .int 0])), (q1, .inl (cI, 5, .inl (upd (upd (upd (upd (upd (fun _ => 0) 0 20) 1 6) 2 15) 3 10) 4 15))), (q2, .inl (cI, 6, .inl (fun _ => 0))), (q3, .inl (cI, 6, .inl (fun _ => 0)))] H := hP
  have hD : va_D A [(h0, .inr (7, [.ref q1, .ref q2, .null, .int 0])), (q1, .inl (cI, 5, .inl (upd (upd (upd (upd (upd (fun _ => 0) 0 20) 1 6) 2 15) 3 10) 4 15))), (q2, .inl (cI, 6, .inl (fun _ => 0))), (q3, .inl (cI, 6, .inl (fun _ => 0)))] := hD
  refine W.widen (k := 3) (n := 17) (by omega) (by omega) ?_
  refine va_putF (D := D) (ci := 7) (v := .ref q3) (ty := .array .int) (C := RX7) (T := TX7) (N := 4) hx hb hgw (uw (q := 5) rfl rfl rfl) tyX7 tyX7_ok nmX7 hown hK hP hD hS 0 rfl rfl 2 (by decide) (show (Cond.fieldLink "StoneWorks$Wall" 18 "StoneWorks$Wall" "weights" "[I").before _ s = true from hgw _ (fl_in (8, 18, 7, 2) (by decide))) (fun _ h9 => h9) rfl hin rfl (by decide +kernel) rfl rfl (Nat.le_of_ble_eq_true rfl) dq_Wall_49 (fun H locs hP hD hS => ?_)
  have hP : va_P D classes [(h0, .inr (7, [.ref q1, .ref q2, .ref q3, .int 0])), (q1, .inl (cI, 5, .inl (upd (upd (upd (upd (upd (fun _ => 0) 0 20) 1 6) 2 15) 3 10) 4 15))), (q2, .inl (cI, 6, .inl (fun _ => 0))), (q3, .inl (cI, 6, .inl (fun _ => 0)))] H := hP
  have hD : va_D A [(h0, .inr (7, [.ref q1, .ref q2, .ref q3, .int 0])), (q1, .inl (cI, 5, .inl (upd (upd (upd (upd (upd (fun _ => 0) 0 20) 1 6) 2 15) 3 10) 4 15))), (q2, .inl (cI, 6, .inl (fun _ => 0))), (q3, .inl (cI, 6, .inl (fun _ => 0)))] := hD
  refine lv_aload_n hx hb dq_Wall_52 rfl (lv_at hl 0 rfl) ?_
  refine lv_iconst (v := 0) hx hb dq_Wall_53 (by decide) ?_
  refine va_put (D := D) (ci := 7) (v := .int 0) (ty := .int) (C := RX7) (T := TX7) (N := 4) hx hb hgw (uw (q := 5) rfl rfl rfl) tyX7 tyX7_ok nmX7 hown hK hP hD hS 0 rfl rfl 3 (by decide) (show (Cond.fieldLink "StoneWorks$Wall" 21 "StoneWorks$Wall" "layers" "I").before _ s = true from hgw _ (fl_in (8, 21, 7, 3) (by decide))) (fun _ h9 => h9) rfl (by decide +kernel) rfl rfl (Nat.le_of_ble_eq_true rfl) dq_Wall_54 (fun H locs hP hD hS => ?_)
  have hP : va_P D classes [(h0, .inr (7, [.ref q1, .ref q2, .ref q3, .int 0])), (q1, .inl (cI, 5, .inl (upd (upd (upd (upd (upd (fun _ => 0) 0 20) 1 6) 2 15) 3 10) 4 15))), (q2, .inl (cI, 6, .inl (fun _ => 0))), (q3, .inl (cI, 6, .inl (fun _ => 0)))] H := hP
  have hD : va_D A [(h0, .inr (7, [.ref q1, .ref q2, .ref q3, .int 0])), (q1, .inl (cI, 5, .inl (upd (upd (upd (upd (upd (fun _ => 0) 0 20) 1 6) 2 15) 3 10) 4 15))), (q2, .inl (cI, 6, .inl (fun _ => 0))), (q3, .inl (cI, 6, .inl (fun _ => 0)))] := hD
  exact W.vret hx hb hr (fun t ht hW => ⟨⟨(), rfl, trivial, q1, q2, q3, by rw [ht]; exact hP, hD⟩, hS.F ht⟩) hS.2.2 dq_Wall_57
set_option maxHeartbeats 8000000 in
set_option maxRecDepth 100000 in
theorem k_Asks (l : Launch) (D : va_G) (cI cZ : ClassId) (h0 sz : Nat) : Met l yk_Asks (kW_Asks :: gw) ({ frames := 1, cells := 1, slots := 16, locals := 12 }) (va_Pc [.ref h0] (fun U => U.heap.size = sz ∧ va_P D classes [(h0, .inr (0, [.null, .int 0]))] U.heap ∧ va_K D classes (tyc cI cZ) U ∧ va_D (fun _ => True) [(h0, .inr (0, [.null, .int 0]))])) (va_Qv (fun _ : Unit => True) (fun _ t => ∃ q1 : Nat, va_P D classes [(h0, .inr (0, [.ref q1, .int 0])), (q1, .inl (cI, 16, .inl (fun _ => 0)))] t.heap ∧ va_D (va_A [(h0, .inr (0, [.null, .int 0]))] sz) [(h0, .inr (0, [.ref q1, .int 0])), (q1, .inl (cI, 16, .inl (fun _ => 0)))]) (va_A [(h0, .inr (0, [.null, .int 0]))] sz)) 1 16 (va_A [(h0, .inr (0, [.null, .int 0]))] sz) := by
  refine Met.ofW (cc := prog_2_method_1_code) (maxL := 1) (ret := none) (by decide) rfl ?_
  intro p e s m args below meth c s₁ B hml hv
  obtain ⟨rfl, hsz, hP, hK, hD0⟩ := hv
  have hx := B.exec
  have hb := B.bytes
  have hr := B.returns
  have hts := atoms_spec (ws := kW_Asks :: gw) B.pre
  have hgw := fun (w : Cond) (hw : w ∈ gw) => hts w (List.mem_cons_of_mem _ hw)
  have hown : s.vm.findClass "StoneWorks$Asks" = some m.cls := findClass_of_methodNamed B.named
  have hlocks := B.notSynchronized
  have hin : meth.name = "<init>" := (name_of_methodNamed B.named B.method).1
  subst hsz
  have hD := hD0.self (sz := s.heap.size)
  generalize hAe : va_A [(h0, .inr (0, [.null, .int 0]))] s.heap.size = A at hD ⊢
  have hA : ∀ q : Nat, s.heap.size ≤ q → A q := fun q h => by rw [← hAe]; exact Or.inr h
  have hS : va_S A s.heap s.heap [] := va_S.rf
  have hP : va_P D classes [(h0, .inr (0, [.null, .int 0]))] s.heap := hP
  have hl := lv_entry ([.ref h0]) (n := 1) (Nat.le_of_ble_eq_true rfl)
  rw [lg_entry_eq]
  generalize (lg_sl ([.ref h0]) ++ List.replicate (1 - (lg_sl ([.ref h0])).length) Slot.unset).toArray = ls at hl ⊢
  have hl : lv_has ls 1 [(0, .ref h0)] := hl
  refine lv_aload_n hx hb dq_Asks_0 rfl (lv_at hl 0 rfl) ?_
  refine W.objInit hx hb hown (hgw _ ko_Asks) (hgw _ w_oi) (hgw _ w_oc) rfl (by rw [hml]; exact hl.1) rfl dq_Asks_1 (Nat.le_of_ble_eq_true rfl) (Nat.le_of_ble_eq_true rfl) ?_
  refine W.eq (g2 := F0 m 4 ls []) rfl ?_
  refine lv_aload_n hx hb dq_Asks_4 rfl (lv_at hl 0 rfl) ?_
  refine lv_bipush (v := 16) hx hb dq_Asks_5 (by decide) ?_
  refine va_newI (N := 16) hx hb (hgw _ w_aI) hK hP hD hS hA (by decide) rfl (Nat.le_of_ble_eq_true rfl) (Nat.le_of_ble_eq_true rfl) (Nat.le_of_ble_eq_true rfl) dq_Asks_7 (fun q1 H hP hD hS => ?_)
  have hP : va_P D classes [(h0, .inr (0, [.null, .int 0])), (q1, .inl (cI, 16, .inl (fun _ => 0)))] H := hP
  have hD : va_D A [(h0, .inr (0, [.null, .int 0])), (q1, .inl (cI, 16, .inl (fun _ => 0)))] := hD
  refine W.widen (k := 1) (n := 16) (by omega) (by omega) ?_
  refine va_putF (D := D) (ci := 0) (v := .ref q1) (ty := .array .int) (C := RX0) (T := TX0) (N := 2) hx hb hgw (uw (q := 24) rfl rfl rfl) tyX0 tyX0_ok nmX0 hown hK hP hD hS 0 rfl rfl 0 (by decide) (show (Cond.fieldLink "StoneWorks$Asks" 11 "StoneWorks$Asks" "trace" "[I").before _ s = true from hgw _ (fl_in (1, 11, 0, 0) (by decide))) (fun _ h9 => h9) rfl hin rfl (by decide +kernel) rfl rfl (Nat.le_of_ble_eq_true rfl) dq_Asks_9 (fun H locs hP hD hS => ?_)
  have hP : va_P D classes [(h0, .inr (0, [.ref q1, .int 0])), (q1, .inl (cI, 16, .inl (fun _ => 0)))] H := hP
  have hD : va_D A [(h0, .inr (0, [.ref q1, .int 0])), (q1, .inl (cI, 16, .inl (fun _ => 0)))] := hD
  refine lv_aload_n hx hb dq_Asks_12 rfl (lv_at hl 0 rfl) ?_
  refine lv_iconst (v := 0) hx hb dq_Asks_13 (by decide) ?_
  refine va_put (D := D) (ci := 0) (v := .int 0) (ty := .int) (C := RX0) (T := TX0) (N := 2) hx hb hgw (uw (q := 24) rfl rfl rfl) tyX0 tyX0_ok nmX0 hown hK hP hD hS 0 rfl rfl 1 (by decide) (show (Cond.fieldLink "StoneWorks$Asks" 15 "StoneWorks$Asks" "traced" "I").before _ s = true from hgw _ (fl_in (1, 15, 0, 1) (by decide))) (fun _ h9 => h9) rfl (by decide +kernel) rfl rfl (Nat.le_of_ble_eq_true rfl) dq_Asks_14 (fun H locs hP hD hS => ?_)
  have hP : va_P D classes [(h0, .inr (0, [.ref q1, .int 0])), (q1, .inl (cI, 16, .inl (fun _ => 0)))] H := hP
  have hD : va_D A [(h0, .inr (0, [.ref q1, .int 0])), (q1, .inl (cI, 16, .inl (fun _ => 0)))] := hD
  exact W.vret hx hb hr (fun t ht hW => ⟨⟨(), rfl, trivial, q1, by rw [ht]; exact hP, hD⟩, hS.F ht⟩) hS.2.2 dq_Asks_17
set_option maxHeartbeats 8000000 in
set_option maxRecDepth 100000 in
theorem k_Model (l : Launch) (D : va_G) (cI cZ : ClassId) (h0 sz : Nat) : Met l yk_Model (kW_Model :: gw) ({ frames := 1, cells := 16, slots := 1132, locals := 12 }) (va_Pc [.ref h0] (fun U => U.heap.size = sz ∧ va_P D classes [(h0, .inr (9, [.int 0, .int 0, .null, .null, .null, .null, .int 0, .null, .null, .null, .null, .null, .null, .null, .int 0, .null, .null, .null, .null, .null, .int 0]))] U.heap ∧ va_K D classes (tyc cI cZ) U ∧ va_D (fun _ => True) [(h0, .inr (9, [.int 0, .int 0, .null, .null, .null, .null, .int 0, .null, .null, .null, .null, .null, .null, .null, .int 0, .null, .null, .null, .null, .null, .int 0]))])) (va_Qv (fun _ : Unit => True) (fun _ t => ∃ q1 q2 q3 q4 q5 q6 q7 q8 q9 q10 q11 q12 q13 q14 q15 q16 : Nat, va_P D classes [(h0, .inr (9, [.int 0, .int 0, .ref q1, .ref q2, .ref q3, .ref q4, .int 0, .ref q5, .ref q6, .ref q7, .ref q8, .ref q9, .ref q10, .ref q11, .int 0, .ref q12, .ref q13, .ref q14, .ref q15, .ref q16, .int 0])), (q1, .inl (cI, 8, .inl (upd (upd (upd (upd (upd (upd (upd (upd (fun _ => 0) 0 (-1)) 1 (-1)) 2 (-1)) 3 (-1)) 4 (-1)) 5 (-1)) 6 (-1)) 7 (-1)))), (q2, .inl (cI, 8, .inl (fun _ => 0))), (q3, .inl (cI, 800, .inl (fun _ => 0))), (q4, .inl (cI, 5, .inl (upd (upd (upd (upd (upd (fun _ => 0) 0 20) 1 6) 2 15) 3 10) 4 15))), (q5, .inl (cI, 6, .inl (fun _ => 0))), (q6, .inl (cI, 6, .inl (fun _ => 0))), (q7, .inl (cI, 4, .inl (fun _ => 0))), (q8, .inl (cI, 3, .inl (fun _ => 0))), (q9, .inl (cZ, 12, .inl (fun _ => 0))), (q10, .inl (cI, 12, .inl (fun _ => 0))), (q11, .inl (cI, 8, .inl (fun _ => 0))), (q12, .inl (cI, 68, .inl (fun _ => 0))), (q13, .inl (cI, 68, .inl (fun _ => 0))), (q14, .inl (cI, 8, .inl (fun _ => 0))), (q15, .inl (cI, 100, .inl (fun _ => 0))), (q16, .inl (cI, 16, .inl (fun _ => 0)))] t.heap ∧ va_D (va_A [(h0, .inr (9, [.int 0, .int 0, .null, .null, .null, .null, .int 0, .null, .null, .null, .null, .null, .null, .null, .int 0, .null, .null, .null, .null, .null, .int 0]))] sz) [(h0, .inr (9, [.int 0, .int 0, .ref q1, .ref q2, .ref q3, .ref q4, .int 0, .ref q5, .ref q6, .ref q7, .ref q8, .ref q9, .ref q10, .ref q11, .int 0, .ref q12, .ref q13, .ref q14, .ref q15, .ref q16, .int 0])), (q1, .inl (cI, 8, .inl (upd (upd (upd (upd (upd (upd (upd (upd (fun _ => 0) 0 (-1)) 1 (-1)) 2 (-1)) 3 (-1)) 4 (-1)) 5 (-1)) 6 (-1)) 7 (-1)))), (q2, .inl (cI, 8, .inl (fun _ => 0))), (q3, .inl (cI, 800, .inl (fun _ => 0))), (q4, .inl (cI, 5, .inl (upd (upd (upd (upd (upd (fun _ => 0) 0 20) 1 6) 2 15) 3 10) 4 15))), (q5, .inl (cI, 6, .inl (fun _ => 0))), (q6, .inl (cI, 6, .inl (fun _ => 0))), (q7, .inl (cI, 4, .inl (fun _ => 0))), (q8, .inl (cI, 3, .inl (fun _ => 0))), (q9, .inl (cZ, 12, .inl (fun _ => 0))), (q10, .inl (cI, 12, .inl (fun _ => 0))), (q11, .inl (cI, 8, .inl (fun _ => 0))), (q12, .inl (cI, 68, .inl (fun _ => 0))), (q13, .inl (cI, 68, .inl (fun _ => 0))), (q14, .inl (cI, 8, .inl (fun _ => 0))), (q15, .inl (cI, 100, .inl (fun _ => 0))), (q16, .inl (cI, 16, .inl (fun _ => 0)))]) (va_A [(h0, .inr (9, [.int 0, .int 0, .null, .null, .null, .null, .int 0, .null, .null, .null, .null, .null, .null, .null, .int 0, .null, .null, .null, .null, .null, .int 0]))] sz)) 16 1132 (va_A [(h0, .inr (9, [.int 0, .int 0, .null, .null, .null, .null, .int 0, .null, .null, .null, .null, .null, .null, .null, .int 0, .null, .null, .null, .null, .null, .int 0]))] sz) := by
  refine Met.ofW (cc := prog_11_method_1_code) (maxL := 1) (ret := none) (by decide) rfl ?_
  intro p e s m args below meth c s₁ B hml hv
  obtain ⟨rfl, hsz, hP, hK, hD0⟩ := hv
  have hx := B.exec
  have hb := B.bytes
  have hr := B.returns
  have hts := atoms_spec (ws := kW_Model :: gw) B.pre
  have hgw := fun (w : Cond) (hw : w ∈ gw) => hts w (List.mem_cons_of_mem _ hw)
  have hown : s.vm.findClass "StoneWorksModel" = some m.cls := findClass_of_methodNamed B.named
  have hlocks := B.notSynchronized
  have hin : meth.name = "<init>" := (name_of_methodNamed B.named B.method).1
  subst hsz
  have hD := hD0.self (sz := s.heap.size)
  generalize hAe : va_A [(h0, .inr (9, [.int 0, .int 0, .null, .null, .null, .null, .int 0, .null, .null, .null, .null, .null, .null, .null, .int 0, .null, .null, .null, .null, .null, .int 0]))] s.heap.size = A at hD ⊢
  have hA : ∀ q : Nat, s.heap.size ≤ q → A q := fun q h => by rw [← hAe]; exact Or.inr h
  have hS : va_S A s.heap s.heap [] := va_S.rf
  have hP : va_P D classes [(h0, .inr (9, [.int 0, .int 0, .null, .null, .null, .null, .int 0, .null, .null, .null, .null, .null, .null, .null, .int 0, .null, .null, .null, .null, .null, .int 0]))] s.heap := hP
  have hl := lv_entry ([.ref h0]) (n := 1) (Nat.le_of_ble_eq_true rfl)
  rw [lg_entry_eq]
  generalize (lg_sl ([.ref h0]) ++ List.replicate (1 - (lg_sl ([.ref h0])).length) Slot.unset).toArray = ls at hl ⊢
  have hl : lv_has ls 1 [(0, .ref h0)] := hl
  refine lv_aload_n hx hb dq_Model_0 rfl (lv_at hl 0 rfl) ?_
  refine W.objInit hx hb hown (hgw _ ko_Model) (hgw _ w_oi) (hgw _ w_oc) rfl (by rw [hml]; exact hl.1) rfl dq_Model_1 (Nat.le_of_ble_eq_true rfl) (Nat.le_of_ble_eq_true rfl) ?_
  refine W.eq (g2 := F0 m 4 ls []) rfl ?_
  refine lv_aload_n hx hb dq_Model_4 rfl (lv_at hl 0 rfl) ?_
  refine lv_bipush (v := 8) hx hb dq_Model_5 (by decide) ?_
  refine va_newI (N := 8) hx hb (hgw _ w_aI) hK hP hD hS hA (by decide) rfl (Nat.le_of_ble_eq_true rfl) (Nat.le_of_ble_eq_true rfl) (Nat.le_of_ble_eq_true rfl) dq_Model_7 (fun q1 H hP hD hS => ?_)
  have hP : va_P D classes [(h0, .inr (9, [.int 0, .int 0, .null, .null, .null, .null, .int 0, .null, .null, .null, .null, .null, .null, .null, .int 0, .null, .null, .null, .null, .null, .int 0])), (q1, .inl (cI, 8, .inl (fun _ => 0)))] H := hP
  have hD : va_D A [(h0, .inr (9, [.int 0, .int 0, .null, .null, .null, .null, .int 0, .null, .null, .null, .null, .null, .null, .null, .int 0, .null, .null, .null, .null, .null, .int 0])), (q1, .inl (cI, 8, .inl (fun _ => 0)))] := hD
  refine W.widen (k := 1) (n := 8) (by omega) (by omega) ?_
  refine lv_dup hx hb dq_Model_9 rfl ?_
  refine lv_iconst (v := 0) hx hb dq_Model_10 (by decide) ?_
  refine lv_iconst (v := (-1)) hx hb dq_Model_11 (by decide) ?_
  refine va_iast hx hb hK hP hD hS 1 0 rfl rfl (inI (by decide) (by decide)) dq_Model_12 (fun H locs hP hD hS => ?_)
  have hP : va_P D classes [(h0, .inr (9, [.int 0, .int 0, .null, .null, .null, .null, .int 0, .null, .null, .null, .null, .null, .null, .null, .int 0, .null, .null, .null, .null, .null, .int 0])), (q1, .inl (cI, 8, .inl (upd (fun _ => 0) 0 (-1))))] H := hP
  have hD : va_D A [(h0, .inr (9, [.int 0, .int 0, .null, .null, .null, .null, .int 0, .null, .null, .null, .null, .null, .null, .null, .int 0, .null, .null, .null, .null, .null, .int 0])), (q1, .inl (cI, 8, .inl (upd (fun _ => 0) 0 (-1))))] := hD
  refine lv_dup hx hb dq_Model_13 rfl ?_
  refine lv_iconst (v := 1) hx hb dq_Model_14 (by decide) ?_
  refine lv_iconst (v := (-1)) hx hb dq_Model_15 (by decide) ?_
  refine va_iast hx hb hK hP hD hS 1 0 rfl rfl (inI (by decide) (by decide)) dq_Model_16 (fun H locs hP hD hS => ?_)
  have hP : va_P D classes [(h0, .inr (9, [.int 0, .int 0, .null, .null, .null, .null, .int 0, .null, .null, .null, .null, .null, .null, .null, .int 0, .null, .null, .null, .null, .null, .int 0])), (q1, .inl (cI, 8, .inl (upd (upd (fun _ => 0) 0 (-1)) 1 (-1))))] H := hP
  have hD : va_D A [(h0, .inr (9, [.int 0, .int 0, .null, .null, .null, .null, .int 0, .null, .null, .null, .null, .null, .null, .null, .int 0, .null, .null, .null, .null, .null, .int 0])), (q1, .inl (cI, 8, .inl (upd (upd (fun _ => 0) 0 (-1)) 1 (-1))))] := hD
  refine lv_dup hx hb dq_Model_17 rfl ?_
  refine lv_iconst (v := 2) hx hb dq_Model_18 (by decide) ?_
  refine lv_iconst (v := (-1)) hx hb dq_Model_19 (by decide) ?_
  refine va_iast hx hb hK hP hD hS 1 0 rfl rfl (inI (by decide) (by decide)) dq_Model_20 (fun H locs hP hD hS => ?_)
  have hP : va_P D classes [(h0, .inr (9, [.int 0, .int 0, .null, .null, .null, .null, .int 0, .null, .null, .null, .null, .null, .null, .null, .int 0, .null, .null, .null, .null, .null, .int 0])), (q1, .inl (cI, 8, .inl (upd (upd (upd (fun _ => 0) 0 (-1)) 1 (-1)) 2 (-1))))] H := hP
  have hD : va_D A [(h0, .inr (9, [.int 0, .int 0, .null, .null, .null, .null, .int 0, .null, .null, .null, .null, .null, .null, .null, .int 0, .null, .null, .null, .null, .null, .int 0])), (q1, .inl (cI, 8, .inl (upd (upd (upd (fun _ => 0) 0 (-1)) 1 (-1)) 2 (-1))))] := hD
  refine lv_dup hx hb dq_Model_21 rfl ?_
  refine lv_iconst (v := 3) hx hb dq_Model_22 (by decide) ?_
  refine lv_iconst (v := (-1)) hx hb dq_Model_23 (by decide) ?_
  refine va_iast hx hb hK hP hD hS 1 0 rfl rfl (inI (by decide) (by decide)) dq_Model_24 (fun H locs hP hD hS => ?_)
  have hP : va_P D classes [(h0, .inr (9, [.int 0, .int 0, .null, .null, .null, .null, .int 0, .null, .null, .null, .null, .null, .null, .null, .int 0, .null, .null, .null, .null, .null, .int 0])), (q1, .inl (cI, 8, .inl (upd (upd (upd (upd (fun _ => 0) 0 (-1)) 1 (-1)) 2 (-1)) 3 (-1))))] H := hP
  have hD : va_D A [(h0, .inr (9, [.int 0, .int 0, .null, .null, .null, .null, .int 0, .null, .null, .null, .null, .null, .null, .null, .int 0, .null, .null, .null, .null, .null, .int 0])), (q1, .inl (cI, 8, .inl (upd (upd (upd (upd (fun _ => 0) 0 (-1)) 1 (-1)) 2 (-1)) 3 (-1))))] := hD
  refine lv_dup hx hb dq_Model_25 rfl ?_
  refine lv_iconst (v := 4) hx hb dq_Model_26 (by decide) ?_
  refine lv_iconst (v := (-1)) hx hb dq_Model_27 (by decide) ?_
  refine va_iast hx hb hK hP hD hS 1 0 rfl rfl (inI (by decide) (by decide)) dq_Model_28 (fun H locs hP hD hS => ?_)
  have hP : va_P D classes [(h0, .inr (9, [.int 0, .int 0, .null, .null, .null, .null, .int 0, .null, .null, .null, .null, .null, .null, .null, .int 0, .null, .null, .null, .null, .null, .int 0])), (q1, .inl (cI, 8, .inl (upd (upd (upd (upd (upd (fun _ => 0) 0 (-1)) 1 (-1)) 2 (-1)) 3 (-1)) 4 (-1))))] H := hP
  have hD : va_D A [(h0, .inr (9, [.int 0, .int 0, .null, .null, .null, .null, .int 0, .null, .null, .null, .null, .null, .null, .null, .int 0, .null, .null, .null, .null, .null, .int 0])), (q1, .inl (cI, 8, .inl (upd (upd (upd (upd (upd (fun _ => 0) 0 (-1)) 1 (-1)) 2 (-1)) 3 (-1)) 4 (-1))))] := hD
  refine lv_dup hx hb dq_Model_29 rfl ?_
  refine lv_iconst (v := 5) hx hb dq_Model_30 (by decide) ?_
  refine lv_iconst (v := (-1)) hx hb dq_Model_31 (by decide) ?_
  refine va_iast hx hb hK hP hD hS 1 0 rfl rfl (inI (by decide) (by decide)) dq_Model_32 (fun H locs hP hD hS => ?_)
  have hP : va_P D classes [(h0, .inr (9, [.int 0, .int 0, .null, .null, .null, .null, .int 0, .null, .null, .null, .null, .null, .null, .null, .int 0, .null, .null, .null, .null, .null, .int 0])), (q1, .inl (cI, 8, .inl (upd (upd (upd (upd (upd (upd (fun _ => 0) 0 (-1)) 1 (-1)) 2 (-1)) 3 (-1)) 4 (-1)) 5 (-1))))] H := hP
  have hD : va_D A [(h0, .inr (9, [.int 0, .int 0, .null, .null, .null, .null, .int 0, .null, .null, .null, .null, .null, .null, .null, .int 0, .null, .null, .null, .null, .null, .int 0])), (q1, .inl (cI, 8, .inl (upd (upd (upd (upd (upd (upd (fun _ => 0) 0 (-1)) 1 (-1)) 2 (-1)) 3 (-1)) 4 (-1)) 5 (-1))))] := hD
  refine lv_dup hx hb dq_Model_33 rfl ?_
  refine lv_bipush (v := 6) hx hb dq_Model_34 (by decide) ?_
  refine lv_iconst (v := (-1)) hx hb dq_Model_36 (by decide) ?_
  refine va_iast hx hb hK hP hD hS 1 0 rfl rfl (inI (by decide) (by decide)) dq_Model_37 (fun H locs hP hD hS => ?_)
  have hP : va_P D classes [(h0, .inr (9, [.int 0, .int 0, .null, .null, .null, .null, .int 0, .null, .null, .null, .null, .null, .null, .null, .int 0, .null, .null, .null, .null, .null, .int 0])), (q1, .inl (cI, 8, .inl (upd (upd (upd (upd (upd (upd (upd (fun _ => 0) 0 (-1)) 1 (-1)) 2 (-1)) 3 (-1)) 4 (-1)) 5 (-1)) 6 (-1))))] H := hP
  have hD : va_D A [(h0, .inr (9, [.int 0, .int 0, .null, .null, .null, .null, .int 0, .null, .null, .null, .null, .null, .null, .null, .int 0, .null, .null, .null, .null, .null, .int 0])), (q1, .inl (cI, 8, .inl (upd (upd (upd (upd (upd (upd (upd (fun _ => 0) 0 (-1)) 1 (-1)) 2 (-1)) 3 (-1)) 4 (-1)) 5 (-1)) 6 (-1))))] := hD
  refine lv_dup hx hb dq_Model_38 rfl ?_
  refine lv_bipush (v := 7) hx hb dq_Model_39 (by decide) ?_
  refine lv_iconst (v := (-1)) hx hb dq_Model_41 (by decide) ?_
  refine va_iast hx hb hK hP hD hS 1 0 rfl rfl (inI (by decide) (by decide)) dq_Model_42 (fun H locs hP hD hS => ?_)
  have hP : va_P D classes [(h0, .inr (9, [.int 0, .int 0, .null, .null, .null, .null, .int 0, .null, .null, .null, .null, .null, .null, .null, .int 0, .null, .null, .null, .null, .null, .int 0])), (q1, .inl (cI, 8, .inl (upd (upd (upd (upd (upd (upd (upd (upd (fun _ => 0) 0 (-1)) 1 (-1)) 2 (-1)) 3 (-1)) 4 (-1)) 5 (-1)) 6 (-1)) 7 (-1))))] H := hP
  have hD : va_D A [(h0, .inr (9, [.int 0, .int 0, .null, .null, .null, .null, .int 0, .null, .null, .null, .null, .null, .null, .null, .int 0, .null, .null, .null, .null, .null, .int 0])), (q1, .inl (cI, 8, .inl (upd (upd (upd (upd (upd (upd (upd (upd (fun _ => 0) 0 (-1)) 1 (-1)) 2 (-1)) 3 (-1)) 4 (-1)) 5 (-1)) 6 (-1)) 7 (-1))))] := hD
  refine va_putF (D := D) (ci := 9) (v := .ref q1) (ty := .array .int) (C := RX9) (T := TX9) (N := 21) hx hb hgw (uw (q := 26) rfl rfl rfl) tyX9 tyX9_ok nmX9 hown hK hP hD hS 0 rfl rfl 2 (by decide) (show (Cond.fieldLink "StoneWorksModel" 7 "StoneWorksModel" "lane" "[I").before _ s = true from hgw _ (fl_in (10, 7, 9, 2) (by decide))) (fun _ h9 => h9) rfl hin rfl (by decide +kernel) rfl rfl (Nat.le_of_ble_eq_true rfl) dq_Model_43 (fun H locs hP hD hS => ?_)
  have hP : va_P D classes [(h0, .inr (9, [.int 0, .int 0, .ref q1, .null, .null, .null, .int 0, .null, .null, .null, .null, .null, .null, .null, .int 0, .null, .null, .null, .null, .null, .int 0])), (q1, .inl (cI, 8, .inl (upd (upd (upd (upd (upd (upd (upd (upd (fun _ => 0) 0 (-1)) 1 (-1)) 2 (-1)) 3 (-1)) 4 (-1)) 5 (-1)) 6 (-1)) 7 (-1))))] H := hP
  have hD : va_D A [(h0, .inr (9, [.int 0, .int 0, .ref q1, .null, .null, .null, .int 0, .null, .null, .null, .null, .null, .null, .null, .int 0, .null, .null, .null, .null, .null, .int 0])), (q1, .inl (cI, 8, .inl (upd (upd (upd (upd (upd (upd (upd (upd (fun _ => 0) 0 (-1)) 1 (-1)) 2 (-1)) 3 (-1)) 4 (-1)) 5 (-1)) 6 (-1)) 7 (-1))))] := hD
  refine lv_aload_n hx hb dq_Model_46 rfl (lv_at hl 0 rfl) ?_
  refine lv_bipush (v := 8) hx hb dq_Model_47 (by decide) ?_
  refine va_newI (N := 8) hx hb (hgw _ w_aI) hK hP hD hS hA (by decide) rfl (Nat.le_of_ble_eq_true rfl) (Nat.le_of_ble_eq_true rfl) (Nat.le_of_ble_eq_true rfl) dq_Model_49 (fun q2 H hP hD hS => ?_)
  have hP : va_P D classes [(h0, .inr (9, [.int 0, .int 0, .ref q1, .null, .null, .null, .int 0, .null, .null, .null, .null, .null, .null, .null, .int 0, .null, .null, .null, .null, .null, .int 0])), (q1, .inl (cI, 8, .inl (upd (upd (upd (upd (upd (upd (upd (upd (fun _ => 0) 0 (-1)) 1 (-1)) 2 (-1)) 3 (-1)) 4 (-1)) 5 (-1)) 6 (-1)) 7 (-1)))), (q2, .inl (cI, 8, .inl (fun _ => 0)))] H := hP
  have hD : va_D A [(h0, .inr (9, [.int 0, .int 0, .ref q1, .null, .null, .null, .int 0, .null, .null, .null, .null, .null, .null, .null, .int 0, .null, .null, .null, .null, .null, .int 0])), (q1, .inl (cI, 8, .inl (upd (upd (upd (upd (upd (upd (upd (upd (fun _ => 0) 0 (-1)) 1 (-1)) 2 (-1)) 3 (-1)) 4 (-1)) 5 (-1)) 6 (-1)) 7 (-1)))), (q2, .inl (cI, 8, .inl (fun _ => 0)))] := hD
  refine W.widen (k := 2) (n := 16) (by omega) (by omega) ?_
  refine va_putF (D := D) (ci := 9) (v := .ref q2) (ty := .array .int) (C := RX9) (T := TX9) (N := 21) hx hb hgw (uw (q := 26) rfl rfl rfl) tyX9 tyX9_ok nmX9 hown hK hP hD hS 0 rfl rfl 3 (by decide) (show (Cond.fieldLink "StoneWorksModel" 13 "StoneWorksModel" "many" "[I").before _ s = true from hgw _ (fl_in (10, 13, 9, 3) (by decide))) (fun _ h9 => h9) rfl hin rfl (by decide +kernel) rfl rfl (Nat.le_of_ble_eq_true rfl) dq_Model_51 (fun H locs hP hD hS => ?_)
  have hP : va_P D classes [(h0, .inr (9, [.int 0, .int 0, .ref q1, .ref q2, .null, .null, .int 0, .null, .null, .null, .null, .null, .null, .null, .int 0, .null, .null, .null, .null, .null, .int 0])), (q1, .inl (cI, 8, .inl (upd (upd (upd (upd (upd (upd (upd (upd (fun _ => 0) 0 (-1)) 1 (-1)) 2 (-1)) 3 (-1)) 4 (-1)) 5 (-1)) 6 (-1)) 7 (-1)))), (q2, .inl (cI, 8, .inl (fun _ => 0)))] H := hP
  have hD : va_D A [(h0, .inr (9, [.int 0, .int 0, .ref q1, .ref q2, .null, .null, .int 0, .null, .null, .null, .null, .null, .null, .null, .int 0, .null, .null, .null, .null, .null, .int 0])), (q1, .inl (cI, 8, .inl (upd (upd (upd (upd (upd (upd (upd (upd (fun _ => 0) 0 (-1)) 1 (-1)) 2 (-1)) 3 (-1)) 4 (-1)) 5 (-1)) 6 (-1)) 7 (-1)))), (q2, .inl (cI, 8, .inl (fun _ => 0)))] := hD
  refine lv_aload_n hx hb dq_Model_54 rfl (lv_at hl 0 rfl) ?_
  refine lv_sipush (v := 800) hx hb dq_Model_55 (by decide) ?_
  refine va_newI (N := 800) hx hb (hgw _ w_aI) hK hP hD hS hA (by decide) rfl (Nat.le_of_ble_eq_true rfl) (Nat.le_of_ble_eq_true rfl) (Nat.le_of_ble_eq_true rfl) dq_Model_58 (fun q3 H hP hD hS => ?_)
  have hP : va_P D classes [(h0, .inr (9, [.int 0, .int 0, .ref q1, .ref q2, .null, .null, .int 0, .null, .null, .null, .null, .null, .null, .null, .int 0, .null, .null, .null, .null, .null, .int 0])), (q1, .inl (cI, 8, .inl (upd (upd (upd (upd (upd (upd (upd (upd (fun _ => 0) 0 (-1)) 1 (-1)) 2 (-1)) 3 (-1)) 4 (-1)) 5 (-1)) 6 (-1)) 7 (-1)))), (q2, .inl (cI, 8, .inl (fun _ => 0))), (q3, .inl (cI, 800, .inl (fun _ => 0)))] H := hP
  have hD : va_D A [(h0, .inr (9, [.int 0, .int 0, .ref q1, .ref q2, .null, .null, .int 0, .null, .null, .null, .null, .null, .null, .null, .int 0, .null, .null, .null, .null, .null, .int 0])), (q1, .inl (cI, 8, .inl (upd (upd (upd (upd (upd (upd (upd (upd (fun _ => 0) 0 (-1)) 1 (-1)) 2 (-1)) 3 (-1)) 4 (-1)) 5 (-1)) 6 (-1)) 7 (-1)))), (q2, .inl (cI, 8, .inl (fun _ => 0))), (q3, .inl (cI, 800, .inl (fun _ => 0)))] := hD
  refine W.widen (k := 3) (n := 816) (by omega) (by omega) ?_
  refine va_putF (D := D) (ci := 9) (v := .ref q3) (ty := .array .int) (C := RX9) (T := TX9) (N := 21) hx hb hgw (uw (q := 26) rfl rfl rfl) tyX9 tyX9_ok nmX9 hown hK hP hD hS 0 rfl rfl 4 (by decide) (show (Cond.fieldLink "StoneWorksModel" 16 "StoneWorksModel" "item" "[I").before _ s = true from hgw _ (fl_in (10, 16, 9, 4) (by decide))) (fun _ h9 => h9) rfl hin rfl (by decide +kernel) rfl rfl (Nat.le_of_ble_eq_true rfl) dq_Model_60 (fun H locs hP hD hS => ?_)
  have hP : va_P D classes [(h0, .inr (9, [.int 0, .int 0, .ref q1, .ref q2, .ref q3, .null, .int 0, .null, .null, .null, .null, .null, .null, .null, .int 0, .null, .null, .null, .null, .null, .int 0])), (q1, .inl (cI, 8, .inl (upd (upd (upd (upd (upd (upd (upd (upd (fun _ => 0) 0 (-1)) 1 (-1)) 2 (-1)) 3 (-1)) 4 (-1)) 5 (-1)) 6 (-1)) 7 (-1)))), (q2, .inl (cI, 8, .inl (fun _ => 0))), (q3, .inl (cI, 800, .inl (fun _ => 0)))] H := hP
  have hD : va_D A [(h0, .inr (9, [.int 0, .int 0, .ref q1, .ref q2, .ref q3, .null, .int 0, .null, .null, .null, .null, .null, .null, .null, .int 0, .null, .null, .null, .null, .null, .int 0])), (q1, .inl (cI, 8, .inl (upd (upd (upd (upd (upd (upd (upd (upd (fun _ => 0) 0 (-1)) 1 (-1)) 2 (-1)) 3 (-1)) 4 (-1)) 5 (-1)) 6 (-1)) 7 (-1)))), (q2, .inl (cI, 8, .inl (fun _ => 0))), (q3, .inl (cI, 800, .inl (fun _ => 0)))] := hD
  refine lv_aload_n hx hb dq_Model_63 rfl (lv_at hl 0 rfl) ?_
  refine lv_iconst (v := 5) hx hb dq_Model_64 (by decide) ?_
  refine va_newI (N := 5) hx hb (hgw _ w_aI) hK hP hD hS hA (by decide) rfl (Nat.le_of_ble_eq_true rfl) (Nat.le_of_ble_eq_true rfl) (Nat.le_of_ble_eq_true rfl) dq_Model_65 (fun q4 H hP hD hS => ?_)
  have hP : va_P D classes [(h0, .inr (9, [.int 0, .int 0, .ref q1, .ref q2, .ref q3, .null, .int 0, .null, .null, .null, .null, .null, .null, .null, .int 0, .null, .null, .null, .null, .null, .int 0])), (q1, .inl (cI, 8, .inl (upd (upd (upd (upd (upd (upd (upd (upd (fun _ => 0) 0 (-1)) 1 (-1)) 2 (-1)) 3 (-1)) 4 (-1)) 5 (-1)) 6 (-1)) 7 (-1)))), (q2, .inl (cI, 8, .inl (fun _ => 0))), (q3, .inl (cI, 800, .inl (fun _ => 0))), (q4, .inl (cI, 5, .inl (fun _ => 0)))] H := hP
  have hD : va_D A [(h0, .inr (9, [.int 0, .int 0, .ref q1, .ref q2, .ref q3, .null, .int 0, .null, .null, .null, .null, .null, .null, .null, .int 0, .null, .null, .null, .null, .null, .int 0])), (q1, .inl (cI, 8, .inl (upd (upd (upd (upd (upd (upd (upd (upd (fun _ => 0) 0 (-1)) 1 (-1)) 2 (-1)) 3 (-1)) 4 (-1)) 5 (-1)) 6 (-1)) 7 (-1)))), (q2, .inl (cI, 8, .inl (fun _ => 0))), (q3, .inl (cI, 800, .inl (fun _ => 0))), (q4, .inl (cI, 5, .inl (fun _ => 0)))] := hD
  refine W.widen (k := 4) (n := 821) (by omega) (by omega) ?_
  refine lv_dup hx hb dq_Model_67 rfl ?_
  refine lv_iconst (v := 0) hx hb dq_Model_68 (by decide) ?_
  refine lv_bipush (v := 20) hx hb dq_Model_69 (by decide) ?_
  refine va_iast hx hb hK hP hD hS 4 0 rfl rfl (inI (by decide) (by decide)) dq_Model_71 (fun H locs hP hD hS => ?_)
  have hP : va_P D classes [(h0, .inr (9, [.int 0, .int 0, .ref q1, .ref q2, .ref q3, .null, .int 0, .null, .null, .null, .null, .null, .null, .null, .int 0, .null, .null, .null, .null, .null, .int 0])), (q1, .inl (cI, 8, .inl (upd (upd (upd (upd (upd (upd (upd (upd (fun _ => 0) 0 (-1)) 1 (-1)) 2 (-1)) 3 (-1)) 4 (-1)) 5 (-1)) 6 (-1)) 7 (-1)))), (q2, .inl (cI, 8, .inl (fun _ => 0))), (q3, .inl (cI, 800, .inl (fun _ => 0))), (q4, .inl (cI, 5, .inl (upd (fun _ => 0) 0 20)))] H := hP
  have hD : va_D A [(h0, .inr (9, [.int 0, .int 0, .ref q1, .ref q2, .ref q3, .null, .int 0, .null, .null, .null, .null, .null, .null, .null, .int 0, .null, .null, .null, .null, .null, .int 0])), (q1, .inl (cI, 8, .inl (upd (upd (upd (upd (upd (upd (upd (upd (fun _ => 0) 0 (-1)) 1 (-1)) 2 (-1)) 3 (-1)) 4 (-1)) 5 (-1)) 6 (-1)) 7 (-1)))), (q2, .inl (cI, 8, .inl (fun _ => 0))), (q3, .inl (cI, 800, .inl (fun _ => 0))), (q4, .inl (cI, 5, .inl (upd (fun _ => 0) 0 20)))] := hD
  refine lv_dup hx hb dq_Model_72 rfl ?_
  refine lv_iconst (v := 1) hx hb dq_Model_73 (by decide) ?_
  refine lv_bipush (v := 6) hx hb dq_Model_74 (by decide) ?_
  refine va_iast hx hb hK hP hD hS 4 0 rfl rfl (inI (by decide) (by decide)) dq_Model_76 (fun H locs hP hD hS => ?_)
  have hP : va_P D classes [(h0, .inr (9, [.int 0, .int 0, .ref q1, .ref q2, .ref q3, .null, .int 0, .null, .null, .null, .null, .null, .null, .null, .int 0, .null, .null, .null, .null, .null, .int 0])), (q1, .inl (cI, 8, .inl (upd (upd (upd (upd (upd (upd (upd (upd (fun _ => 0) 0 (-1)) 1 (-1)) 2 (-1)) 3 (-1)) 4 (-1)) 5 (-1)) 6 (-1)) 7 (-1)))), (q2, .inl (cI, 8, .inl (fun _ => 0))), (q3, .inl (cI, 800, .inl (fun _ => 0))), (q4, .inl (cI, 5, .inl (upd (upd (fun _ => 0) 0 20) 1 6)))] H := hP
  have hD : va_D A [(h0, .inr (9, [.int 0, .int 0, .ref q1, .ref q2, .ref q3, .null, .int 0, .null, .null, .null, .null, .null, .null, .null, .int 0, .null, .null, .null, .null, .null, .int 0])), (q1, .inl (cI, 8, .inl (upd (upd (upd (upd (upd (upd (upd (upd (fun _ => 0) 0 (-1)) 1 (-1)) 2 (-1)) 3 (-1)) 4 (-1)) 5 (-1)) 6 (-1)) 7 (-1)))), (q2, .inl (cI, 8, .inl (fun _ => 0))), (q3, .inl (cI, 800, .inl (fun _ => 0))), (q4, .inl (cI, 5, .inl (upd (upd (fun _ => 0) 0 20) 1 6)))] := hD
  refine lv_dup hx hb dq_Model_77 rfl ?_
  refine lv_iconst (v := 2) hx hb dq_Model_78 (by decide) ?_
  refine lv_bipush (v := 15) hx hb dq_Model_79 (by decide) ?_
  refine va_iast hx hb hK hP hD hS 4 0 rfl rfl (inI (by decide) (by decide)) dq_Model_81 (fun H locs hP hD hS => ?_)
  have hP : va_P D classes [(h0, .inr (9, [.int 0, .int 0, .ref q1, .ref q2, .ref q3, .null, .int 0, .null, .null, .null, .null, .null, .null, .null, .int 0, .null, .null, .null, .null, .null, .int 0])), (q1, .inl (cI, 8, .inl (upd (upd (upd (upd (upd (upd (upd (upd (fun _ => 0) 0 (-1)) 1 (-1)) 2 (-1)) 3 (-1)) 4 (-1)) 5 (-1)) 6 (-1)) 7 (-1)))), (q2, .inl (cI, 8, .inl (fun _ => 0))), (q3, .inl (cI, 800, .inl (fun _ => 0))), (q4, .inl (cI, 5, .inl (upd (upd (upd (fun _ => 0) 0 20) 1 6) 2 15)))] H := hP
  have hD : va_D A [(h0, .inr (9, [.int 0, .int 0, .ref q1, .ref q2, .ref q3, .null, .int 0, .null, .null, .null, .null, .null, .null, .null, .int 0, .null, .null, .null, .null, .null, .int 0])), (q1, .inl (cI, 8, .inl (upd (upd (upd (upd (upd (upd (upd (upd (fun _ => 0) 0 (-1)) 1 (-1)) 2 (-1)) 3 (-1)) 4 (-1)) 5 (-1)) 6 (-1)) 7 (-1)))), (q2, .inl (cI, 8, .inl (fun _ => 0))), (q3, .inl (cI, 800, .inl (fun _ => 0))), (q4, .inl (cI, 5, .inl (upd (upd (upd (fun _ => 0) 0 20) 1 6) 2 15)))] := hD
  refine lv_dup hx hb dq_Model_82 rfl ?_
  refine lv_iconst (v := 3) hx hb dq_Model_83 (by decide) ?_
  refine lv_bipush (v := 10) hx hb dq_Model_84 (by decide) ?_
  refine va_iast hx hb hK hP hD hS 4 0 rfl rfl (inI (by decide) (by decide)) dq_Model_86 (fun H locs hP hD hS => ?_)
  have hP : va_P D classes [(h0, .inr (9, [.int 0, .int 0, .ref q1, .ref q2, .ref q3, .null, .int 0, .null, .null, .null, .null, .null, .null, .null, .int 0, .null, .null, .null, .null, .null, .int 0])), (q1, .inl (cI, 8, .inl (upd (upd (upd (upd (upd (upd (upd (upd (fun _ => 0) 0 (-1)) 1 (-1)) 2 (-1)) 3 (-1)) 4 (-1)) 5 (-1)) 6 (-1)) 7 (-1)))), (q2, .inl (cI, 8, .inl (fun _ => 0))), (q3, .inl (cI, 800, .inl (fun _ => 0))), (q4, .inl (cI, 5, .inl (upd (upd (upd (upd (fun _ => 0) 0 20) 1 6) 2 15) 3 10)))] H := hP
  have hD : va_D A [(h0, .inr (9, [.int 0, .int 0, .ref q1, .ref q2, .ref q3, .null, .int 0, .null, .null, .null, .null, .null, .null, .null, .int 0, .null, .null, .null, .null, .null, .int 0])), (q1, .inl (cI, 8, .inl (upd (upd (upd (upd (upd (upd (upd (upd (fun _ => 0) 0 (-1)) 1 (-1)) 2 (-1)) 3 (-1)) 4 (-1)) 5 (-1)) 6 (-1)) 7 (-1)))), (q2, .inl (cI, 8, .inl (fun _ => 0))), (q3, .inl (cI, 800, .inl (fun _ => 0))), (q4, .inl (cI, 5, .inl (upd (upd (upd (upd (fun _ => 0) 0 20) 1 6) 2 15) 3 10)))] := hD
  refine lv_dup hx hb dq_Model_87 rfl ?_
  refine lv_iconst (v := 4) hx hb dq_Model_88 (by decide) ?_
  refine lv_bipush (v := 15) hx hb dq_Model_89 (by decide) ?_
  refine va_iast hx hb hK hP hD hS 4 0 rfl rfl (inI (by decide) (by decide)) dq_Model_91 (fun H locs hP hD hS => ?_)
  have hP : va_P D classes [(h0, .inr (9, [.int 0, .int 0, .ref q1, .ref q2, .ref q3, .null, .int 0, .null, .null, .null, .null, .null, .null, .null, .int 0, .null, .null, .null, .null, .null, .int 0])), (q1, .inl (cI, 8, .inl (upd (upd (upd (upd (upd (upd (upd (upd (fun _ => 0) 0 (-1)) 1 (-1)) 2 (-1)) 3 (-1)) 4 (-1)) 5 (-1)) 6 (-1)) 7 (-1)))), (q2, .inl (cI, 8, .inl (fun _ => 0))), (q3, .inl (cI, 800, .inl (fun _ => 0))), (q4, .inl (cI, 5, .inl (upd (upd (upd (upd (upd (fun _ => 0) 0 20) 1 6) 2 15) 3 10) 4 15)))] H := hP
  have hD : va_D A [(h0, .inr (9, [.int 0, .int 0, .ref q1, .ref q2, .ref q3, .null, .int 0, .null, .null, .null, .null, .null, .null, .null, .int 0, .null, .null, .null, .null, .null, .int 0])), (q1, .inl (cI, 8, .inl (upd (upd (upd (upd (upd (upd (upd (upd (fun _ => 0) 0 (-1)) 1 (-1)) 2 (-1)) 3 (-1)) 4 (-1)) 5 (-1)) 6 (-1)) 7 (-1)))), (q2, .inl (cI, 8, .inl (fun _ => 0))), (q3, .inl (cI, 800, .inl (fun _ => 0))), (q4, .inl (cI, 5, .inl (upd (upd (upd (upd (upd (fun _ => 0) 0 20) 1 6) 2 15) 3 10) 4 15)))] := hD
  refine va_putF (D := D) (ci := 9) (v := .ref q4) (ty := .array .int) (C := RX9) (T := TX9) (N := 21) hx hb hgw (uw (q := 26) rfl rfl rfl) tyX9 tyX9_ok nmX9 hown hK hP hD hS 0 rfl rfl 5 (by decide) (show (Cond.fieldLink "StoneWorksModel" 19 "StoneWorksModel" "wall" "[I").before _ s = true from hgw _ (fl_in (10, 19, 9, 5) (by decide))) (fun _ h9 => h9) rfl hin rfl (by decide +kernel) rfl rfl (Nat.le_of_ble_eq_true rfl) dq_Model_92 (fun H locs hP hD hS => ?_)
  have hP : va_P D classes [(h0, .inr (9, [.int 0, .int 0, .ref q1, .ref q2, .ref q3, .ref q4, .int 0, .null, .null, .null, .null, .null, .null, .null, .int 0, .null, .null, .null, .null, .null, .int 0])), (q1, .inl (cI, 8, .inl (upd (upd (upd (upd (upd (upd (upd (upd (fun _ => 0) 0 (-1)) 1 (-1)) 2 (-1)) 3 (-1)) 4 (-1)) 5 (-1)) 6 (-1)) 7 (-1)))), (q2, .inl (cI, 8, .inl (fun _ => 0))), (q3, .inl (cI, 800, .inl (fun _ => 0))), (q4, .inl (cI, 5, .inl (upd (upd (upd (upd (upd (fun _ => 0) 0 20) 1 6) 2 15) 3 10) 4 15)))] H := hP
  have hD : va_D A [(h0, .inr (9, [.int 0, .int 0, .ref q1, .ref q2, .ref q3, .ref q4, .int 0, .null, .null, .null, .null, .null, .null, .null, .int 0, .null, .null, .null, .null, .null, .int 0])), (q1, .inl (cI, 8, .inl (upd (upd (upd (upd (upd (upd (upd (upd (fun _ => 0) 0 (-1)) 1 (-1)) 2 (-1)) 3 (-1)) 4 (-1)) 5 (-1)) 6 (-1)) 7 (-1)))), (q2, .inl (cI, 8, .inl (fun _ => 0))), (q3, .inl (cI, 800, .inl (fun _ => 0))), (q4, .inl (cI, 5, .inl (upd (upd (upd (upd (upd (fun _ => 0) 0 20) 1 6) 2 15) 3 10) 4 15)))] := hD
  refine lv_aload_n hx hb dq_Model_95 rfl (lv_at hl 0 rfl) ?_
  refine lv_bipush (v := 6) hx hb dq_Model_96 (by decide) ?_
  refine va_newI (N := 6) hx hb (hgw _ w_aI) hK hP hD hS hA (by decide) rfl (Nat.le_of_ble_eq_true rfl) (Nat.le_of_ble_eq_true rfl) (Nat.le_of_ble_eq_true rfl) dq_Model_98 (fun q5 H hP hD hS => ?_)
  have hP : va_P D classes [(h0, .inr (9, [.int 0, .int 0, .ref q1, .ref q2, .ref q3, .ref q4, .int 0, .null, .null, .null, .null, .null, .null, .null, .int 0, .null, .null, .null, .null, .null, .int 0])), (q1, .inl (cI, 8, .inl (upd (upd (upd (upd (upd (upd (upd (upd (fun _ => 0) 0 (-1)) 1 (-1)) 2 (-1)) 3 (-1)) 4 (-1)) 5 (-1)) 6 (-1)) 7 (-1)))), (q2, .inl (cI, 8, .inl (fun _ => 0))), (q3, .inl (cI, 800, .inl (fun _ => 0))), (q4, .inl (cI, 5, .inl (upd (upd (upd (upd (upd (fun _ => 0) 0 20) 1 6) 2 15) 3 10) 4 15))), (q5, .inl (cI, 6, .inl (fun _ => 0)))] H := hP
  have hD : va_D A [(h0, .inr (9, [.int 0, .int 0, .ref q1, .ref q2, .ref q3, .ref q4, .int 0, .null, .null, .null, .null, .null, .null, .null, .int 0, .null, .null, .null, .null, .null, .int 0])), (q1, .inl (cI, 8, .inl (upd (upd (upd (upd (upd (upd (upd (upd (fun _ => 0) 0 (-1)) 1 (-1)) 2 (-1)) 3 (-1)) 4 (-1)) 5 (-1)) 6 (-1)) 7 (-1)))), (q2, .inl (cI, 8, .inl (fun _ => 0))), (q3, .inl (cI, 800, .inl (fun _ => 0))), (q4, .inl (cI, 5, .inl (upd (upd (upd (upd (upd (fun _ => 0) 0 20) 1 6) 2 15) 3 10) 4 15))), (q5, .inl (cI, 6, .inl (fun _ => 0)))] := hD
  refine W.widen (k := 5) (n := 827) (by omega) (by omega) ?_
  refine va_putF (D := D) (ci := 9) (v := .ref q5) (ty := .array .int) (C := RX9) (T := TX9) (N := 21) hx hb hgw (uw (q := 26) rfl rfl rfl) tyX9 tyX9_ok nmX9 hown hK hP hD hS 0 rfl rfl 7 (by decide) (show (Cond.fieldLink "StoneWorksModel" 22 "StoneWorksModel" "thick" "[I").before _ s = true from hgw _ (fl_in (10, 22, 9, 7) (by decide))) (fun _ h9 => h9) rfl hin rfl (by decide +kernel) rfl rfl (Nat.le_of_ble_eq_true rfl) dq_Model_100 (fun H locs hP hD hS => ?_)
  have hP : va_P D classes [(h0, .inr (9, [.int 0, .int 0, .ref q1, .ref q2, .ref q3, .ref q4, .int 0, .ref q5, .null, .null, .null, .null, .null, .null, .int 0, .null, .null, .null, .null, .null, .int 0])), (q1, .inl (cI, 8, .inl (upd (upd (upd (upd (upd (upd (upd (upd (fun _ => 0) 0 (-1)) 1 (-1)) 2 (-1)) 3 (-1)) 4 (-1)) 5 (-1)) 6 (-1)) 7 (-1)))), (q2, .inl (cI, 8, .inl (fun _ => 0))), (q3, .inl (cI, 800, .inl (fun _ => 0))), (q4, .inl (cI, 5, .inl (upd (upd (upd (upd (upd (fun _ => 0) 0 20) 1 6) 2 15) 3 10) 4 15))), (q5, .inl (cI, 6, .inl (fun _ => 0)))] H := hP
  have hD : va_D A [(h0, .inr (9, [.int 0, .int 0, .ref q1, .ref q2, .ref q3, .ref q4, .int 0, .ref q5, .null, .null, .null, .null, .null, .null, .int 0, .null, .null, .null, .null, .null, .int 0])), (q1, .inl (cI, 8, .inl (upd (upd (upd (upd (upd (upd (upd (upd (fun _ => 0) 0 (-1)) 1 (-1)) 2 (-1)) 3 (-1)) 4 (-1)) 5 (-1)) 6 (-1)) 7 (-1)))), (q2, .inl (cI, 8, .inl (fun _ => 0))), (q3, .inl (cI, 800, .inl (fun _ => 0))), (q4, .inl (cI, 5, .inl (upd (upd (upd (upd (upd (fun _ => 0) 0 20) 1 6) 2 15) 3 10) 4 15))), (q5, .inl (cI, 6, .inl (fun _ => 0)))] := hD
  refine lv_aload_n hx hb dq_Model_103 rfl (lv_at hl 0 rfl) ?_
  refine lv_bipush (v := 6) hx hb dq_Model_104 (by decide) ?_
  refine va_newI (N := 6) hx hb (hgw _ w_aI) hK hP hD hS hA (by decide) rfl (Nat.le_of_ble_eq_true rfl) (Nat.le_of_ble_eq_true rfl) (Nat.le_of_ble_eq_true rfl) dq_Model_106 (fun q6 H hP hD hS => ?_)
  have hP : va_P D classes [(h0, .inr (9, [.int 0, .int 0, .ref q1, .ref q2, .ref q3, .ref q4, .int 0, .ref q5, .null, .null, .null, .null, .null, .null, .int 0, .null, .null, .null, .null, .null, .int 0])), (q1, .inl (cI, 8, .inl (upd (upd (upd (upd (upd (upd (upd (upd (fun _ => 0) 0 (-1)) 1 (-1)) 2 (-1)) 3 (-1)) 4 (-1)) 5 (-1)) 6 (-1)) 7 (-1)))), (q2, .inl (cI, 8, .inl (fun _ => 0))), (q3, .inl (cI, 800, .inl (fun _ => 0))), (q4, .inl (cI, 5, .inl (upd (upd (upd (upd (upd (fun _ => 0) 0 20) 1 6) 2 15) 3 10) 4 15))), (q5, .inl (cI, 6, .inl (fun _ => 0))), (q6, .inl (cI, 6, .inl (fun _ => 0)))] H := hP
  have hD : va_D A [(h0, .inr (9, [.int 0, .int 0, .ref q1, .ref q2, .ref q3, .ref q4, .int 0, .ref q5, .null, .null, .null, .null, .null, .null, .int 0, .null, .null, .null, .null, .null, .int 0])), (q1, .inl (cI, 8, .inl (upd (upd (upd (upd (upd (upd (upd (upd (fun _ => 0) 0 (-1)) 1 (-1)) 2 (-1)) 3 (-1)) 4 (-1)) 5 (-1)) 6 (-1)) 7 (-1)))), (q2, .inl (cI, 8, .inl (fun _ => 0))), (q3, .inl (cI, 800, .inl (fun _ => 0))), (q4, .inl (cI, 5, .inl (upd (upd (upd (upd (upd (fun _ => 0) 0 20) 1 6) 2 15) 3 10) 4 15))), (q5, .inl (cI, 6, .inl (fun _ => 0))), (q6, .inl (cI, 6, .inl (fun _ => 0)))] := hD
  refine W.widen (k := 6) (n := 833) (by omega) (by omega) ?_
  refine va_putF (D := D) (ci := 9) (v := .ref q6) (ty := .array .int) (C := RX9) (T := TX9) (N := 21) hx hb hgw (uw (q := 26) rfl rfl rfl) tyX9 tyX9_ok nmX9 hown hK hP hD hS 0 rfl rfl 8 (by decide) (show (Cond.fieldLink "StoneWorksModel" 25 "StoneWorksModel" "weight" "[I").before _ s = true from hgw _ (fl_in (10, 25, 9, 8) (by decide))) (fun _ h9 => h9) rfl hin rfl (by decide +kernel) rfl rfl (Nat.le_of_ble_eq_true rfl) dq_Model_108 (fun H locs hP hD hS => ?_)
  have hP : va_P D classes [(h0, .inr (9, [.int 0, .int 0, .ref q1, .ref q2, .ref q3, .ref q4, .int 0, .ref q5, .ref q6, .null, .null, .null, .null, .null, .int 0, .null, .null, .null, .null, .null, .int 0])), (q1, .inl (cI, 8, .inl (upd (upd (upd (upd (upd (upd (upd (upd (fun _ => 0) 0 (-1)) 1 (-1)) 2 (-1)) 3 (-1)) 4 (-1)) 5 (-1)) 6 (-1)) 7 (-1)))), (q2, .inl (cI, 8, .inl (fun _ => 0))), (q3, .inl (cI, 800, .inl (fun _ => 0))), (q4, .inl (cI, 5, .inl (upd (upd (upd (upd (upd (fun _ => 0) 0 20) 1 6) 2 15) 3 10) 4 15))), (q5, .inl (cI, 6, .inl (fun _ => 0))), (q6, .inl (cI, 6, .inl (fun _ => 0)))] H := hP
  have hD : va_D A [(h0, .inr (9, [.int 0, .int 0, .ref q1, .ref q2, .ref q3, .ref q4, .int 0, .ref q5, .ref q6, .null, .null, .null, .null, .null, .int 0, .null, .null, .null, .null, .null, .int 0])), (q1, .inl (cI, 8, .inl (upd (upd (upd (upd (upd (upd (upd (upd (fun _ => 0) 0 (-1)) 1 (-1)) 2 (-1)) 3 (-1)) 4 (-1)) 5 (-1)) 6 (-1)) 7 (-1)))), (q2, .inl (cI, 8, .inl (fun _ => 0))), (q3, .inl (cI, 800, .inl (fun _ => 0))), (q4, .inl (cI, 5, .inl (upd (upd (upd (upd (upd (fun _ => 0) 0 20) 1 6) 2 15) 3 10) 4 15))), (q5, .inl (cI, 6, .inl (fun _ => 0))), (q6, .inl (cI, 6, .inl (fun _ => 0)))] := hD
  refine lv_aload_n hx hb dq_Model_111 rfl (lv_at hl 0 rfl) ?_
  refine lv_iconst (v := 4) hx hb dq_Model_112 (by decide) ?_
  refine va_newI (N := 4) hx hb (hgw _ w_aI) hK hP hD hS hA (by decide) rfl (Nat.le_of_ble_eq_true rfl) (Nat.le_of_ble_eq_true rfl) (Nat.le_of_ble_eq_true rfl) dq_Model_113 (fun q7 H hP hD hS => ?_)
  have hP : va_P D classes [(h0, .inr (9, [.int 0, .int 0, .ref q1, .ref q2, .ref q3, .ref q4, .int 0, .ref q5, .ref q6, .null, .null, .null, .null, .null, .int 0, .null, .null, .null, .null, .null, .int 0])), (q1, .inl (cI, 8, .inl (upd (upd (upd (upd (upd (upd (upd (upd (fun _ => 0) 0 (-1)) 1 (-1)) 2 (-1)) 3 (-1)) 4 (-1)) 5 (-1)) 6 (-1)) 7 (-1)))), (q2, .inl (cI, 8, .inl (fun _ => 0))), (q3, .inl (cI, 800, .inl (fun _ => 0))), (q4, .inl (cI, 5, .inl (upd (upd (upd (upd (upd (fun _ => 0) 0 20) 1 6) 2 15) 3 10) 4 15))), (q5, .inl (cI, 6, .inl (fun _ => 0))), (q6, .inl (cI, 6, .inl (fun _ => 0))), (q7, .inl (cI, 4, .inl (fun _ => 0)))] H := hP
  have hD : va_D A [(h0, .inr (9, [.int 0, .int 0, .ref q1, .ref q2, .ref q3, .ref q4, .int 0, .ref q5, .ref q6, .null, .null, .null, .null, .null, .int 0, .null, .null, .null, .null, .null, .int 0])), (q1, .inl (cI, 8, .inl (upd (upd (upd (upd (upd (upd (upd (upd (fun _ => 0) 0 (-1)) 1 (-1)) 2 (-1)) 3 (-1)) 4 (-1)) 5 (-1)) 6 (-1)) 7 (-1)))), (q2, .inl (cI, 8, .inl (fun _ => 0))), (q3, .inl (cI, 800, .inl (fun _ => 0))), (q4, .inl (cI, 5, .inl (upd (upd (upd (upd (upd (fun _ => 0) 0 20) 1 6) 2 15) 3 10) 4 15))), (q5, .inl (cI, 6, .inl (fun _ => 0))), (q6, .inl (cI, 6, .inl (fun _ => 0))), (q7, .inl (cI, 4, .inl (fun _ => 0)))] := hD
  refine W.widen (k := 7) (n := 837) (by omega) (by omega) ?_
  refine va_putF (D := D) (ci := 9) (v := .ref q7) (ty := .array .int) (C := RX9) (T := TX9) (N := 21) hx hb hgw (uw (q := 26) rfl rfl rfl) tyX9 tyX9_ok nmX9 hown hK hP hD hS 0 rfl rfl 9 (by decide) (show (Cond.fieldLink "StoneWorksModel" 28 "StoneWorksModel" "has" "[I").before _ s = true from hgw _ (fl_in (10, 28, 9, 9) (by decide))) (fun _ h9 => h9) rfl hin rfl (by decide +kernel) rfl rfl (Nat.le_of_ble_eq_true rfl) dq_Model_115 (fun H locs hP hD hS => ?_)
  have hP : va_P D classes [(h0, .inr (9, [.int 0, .int 0, .ref q1, .ref q2, .ref q3, .ref q4, .int 0, .ref q5, .ref q6, .ref q7, .null, .null, .null, .null, .int 0, .null, .null, .null, .null, .null, .int 0])), (q1, .inl (cI, 8, .inl (upd (upd (upd (upd (upd (upd (upd (upd (fun _ => 0) 0 (-1)) 1 (-1)) 2 (-1)) 3 (-1)) 4 (-1)) 5 (-1)) 6 (-1)) 7 (-1)))), (q2, .inl (cI, 8, .inl (fun _ => 0))), (q3, .inl (cI, 800, .inl (fun _ => 0))), (q4, .inl (cI, 5, .inl (upd (upd (upd (upd (upd (fun _ => 0) 0 20) 1 6) 2 15) 3 10) 4 15))), (q5, .inl (cI, 6, .inl (fun _ => 0))), (q6, .inl (cI, 6, .inl (fun _ => 0))), (q7, .inl (cI, 4, .inl (fun _ => 0)))] H := hP
  have hD : va_D A [(h0, .inr (9, [.int 0, .int 0, .ref q1, .ref q2, .ref q3, .ref q4, .int 0, .ref q5, .ref q6, .ref q7, .null, .null, .null, .null, .int 0, .null, .null, .null, .null, .null, .int 0])), (q1, .inl (cI, 8, .inl (upd (upd (upd (upd (upd (upd (upd (upd (fun _ => 0) 0 (-1)) 1 (-1)) 2 (-1)) 3 (-1)) 4 (-1)) 5 (-1)) 6 (-1)) 7 (-1)))), (q2, .inl (cI, 8, .inl (fun _ => 0))), (q3, .inl (cI, 800, .inl (fun _ => 0))), (q4, .inl (cI, 5, .inl (upd (upd (upd (upd (upd (fun _ => 0) 0 20) 1 6) 2 15) 3 10) 4 15))), (q5, .inl (cI, 6, .inl (fun _ => 0))), (q6, .inl (cI, 6, .inl (fun _ => 0))), (q7, .inl (cI, 4, .inl (fun _ => 0)))] := hD
  refine lv_aload_n hx hb dq_Model_118 rfl (lv_at hl 0 rfl) ?_
  refine lv_iconst (v := 3) hx hb dq_Model_119 (by decide) ?_
  refine va_newI (N := 3) hx hb (hgw _ w_aI) hK hP hD hS hA (by decide) rfl (Nat.le_of_ble_eq_true rfl) (Nat.le_of_ble_eq_true rfl) (Nat.le_of_ble_eq_true rfl) dq_Model_120 (fun q8 H hP hD hS => ?_)
  have hP : va_P D classes [(h0, .inr (9, [.int 0, .int 0, .ref q1, .ref q2, .ref q3, .ref q4, .int 0, .ref q5, .ref q6, .ref q7, .null, .null, .null, .null, .int 0, .null, .null, .null, .null, .null, .int 0])), (q1, .inl (cI, 8, .inl (upd (upd (upd (upd (upd (upd (upd (upd (fun _ => 0) 0 (-1)) 1 (-1)) 2 (-1)) 3 (-1)) 4 (-1)) 5 (-1)) 6 (-1)) 7 (-1)))), (q2, .inl (cI, 8, .inl (fun _ => 0))), (q3, .inl (cI, 800, .inl (fun _ => 0))), (q4, .inl (cI, 5, .inl (upd (upd (upd (upd (upd (fun _ => 0) 0 20) 1 6) 2 15) 3 10) 4 15))), (q5, .inl (cI, 6, .inl (fun _ => 0))), (q6, .inl (cI, 6, .inl (fun _ => 0))), (q7, .inl (cI, 4, .inl (fun _ => 0))), (q8, .inl (cI, 3, .inl (fun _ => 0)))] H := hP
  have hD : va_D A [(h0, .inr (9, [.int 0, .int 0, .ref q1, .ref q2, .ref q3, .ref q4, .int 0, .ref q5, .ref q6, .ref q7, .null, .null, .null, .null, .int 0, .null, .null, .null, .null, .null, .int 0])), (q1, .inl (cI, 8, .inl (upd (upd (upd (upd (upd (upd (upd (upd (fun _ => 0) 0 (-1)) 1 (-1)) 2 (-1)) 3 (-1)) 4 (-1)) 5 (-1)) 6 (-1)) 7 (-1)))), (q2, .inl (cI, 8, .inl (fun _ => 0))), (q3, .inl (cI, 800, .inl (fun _ => 0))), (q4, .inl (cI, 5, .inl (upd (upd (upd (upd (upd (fun _ => 0) 0 20) 1 6) 2 15) 3 10) 4 15))), (q5, .inl (cI, 6, .inl (fun _ => 0))), (q6, .inl (cI, 6, .inl (fun _ => 0))), (q7, .inl (cI, 4, .inl (fun _ => 0))), (q8, .inl (cI, 3, .inl (fun _ => 0)))] := hD
  refine W.widen (k := 8) (n := 840) (by omega) (by omega) ?_
  refine va_putF (D := D) (ci := 9) (v := .ref q8) (ty := .array .int) (C := RX9) (T := TX9) (N := 21) hx hb hgw (uw (q := 26) rfl rfl rfl) tyX9 tyX9_ok nmX9 hown hK hP hD hS 0 rfl rfl 10 (by decide) (show (Cond.fieldLink "StoneWorksModel" 31 "StoneWorksModel" "needs" "[I").before _ s = true from hgw _ (fl_in (10, 31, 9, 10) (by decide))) (fun _ h9 => h9) rfl hin rfl (by decide +kernel) rfl rfl (Nat.le_of_ble_eq_true rfl) dq_Model_122 (fun H locs hP hD hS => ?_)
  have hP : va_P D classes [(h0, .inr (9, [.int 0, .int 0, .ref q1, .ref q2, .ref q3, .ref q4, .int 0, .ref q5, .ref q6, .ref q7, .ref q8, .null, .null, .null, .int 0, .null, .null, .null, .null, .null, .int 0])), (q1, .inl (cI, 8, .inl (upd (upd (upd (upd (upd (upd (upd (upd (fun _ => 0) 0 (-1)) 1 (-1)) 2 (-1)) 3 (-1)) 4 (-1)) 5 (-1)) 6 (-1)) 7 (-1)))), (q2, .inl (cI, 8, .inl (fun _ => 0))), (q3, .inl (cI, 800, .inl (fun _ => 0))), (q4, .inl (cI, 5, .inl (upd (upd (upd (upd (upd (fun _ => 0) 0 20) 1 6) 2 15) 3 10) 4 15))), (q5, .inl (cI, 6, .inl (fun _ => 0))), (q6, .inl (cI, 6, .inl (fun _ => 0))), (q7, .inl (cI, 4, .inl (fun _ => 0))), (q8, .inl (cI, 3, .inl (fun _ => 0)))] H := hP
  have hD : va_D A [(h0, .inr (9, [.int 0, .int 0, .ref q1, .ref q2, .ref q3, .ref q4, .int 0, .ref q5, .ref q6, .ref q7, .ref q8, .null, .null, .null, .int 0, .null, .null, .null, .null, .null, .int 0])), (q1, .inl (cI, 8, .inl (upd (upd (upd (upd (upd (upd (upd (upd (fun _ => 0) 0 (-1)) 1 (-1)) 2 (-1)) 3 (-1)) 4 (-1)) 5 (-1)) 6 (-1)) 7 (-1)))), (q2, .inl (cI, 8, .inl (fun _ => 0))), (q3, .inl (cI, 800, .inl (fun _ => 0))), (q4, .inl (cI, 5, .inl (upd (upd (upd (upd (upd (fun _ => 0) 0 20) 1 6) 2 15) 3 10) 4 15))), (q5, .inl (cI, 6, .inl (fun _ => 0))), (q6, .inl (cI, 6, .inl (fun _ => 0))), (q7, .inl (cI, 4, .inl (fun _ => 0))), (q8, .inl (cI, 3, .inl (fun _ => 0)))] := hD
  refine lv_aload_n hx hb dq_Model_125 rfl (lv_at hl 0 rfl) ?_
  refine lv_bipush (v := 12) hx hb dq_Model_126 (by decide) ?_
  refine va_newZ (N := 12) hx hb (hgw _ w_aZ) hK hP hD hS hA (by decide) rfl (Nat.le_of_ble_eq_true rfl) (Nat.le_of_ble_eq_true rfl) (Nat.le_of_ble_eq_true rfl) dq_Model_128 (fun q9 H hP hD hS => ?_)
  have hP : va_P D classes [(h0, .inr (9, [.int 0, .int 0, .ref q1, .ref q2, .ref q3, .ref q4, .int 0, .ref q5, .ref q6, .ref q7, .ref q8, .null, .null, .null, .int 0, .null, .null, .null, .null, .null, .int 0])), (q1, .inl (cI, 8, .inl (upd (upd (upd (upd (upd (upd (upd (upd (fun _ => 0) 0 (-1)) 1 (-1)) 2 (-1)) 3 (-1)) 4 (-1)) 5 (-1)) 6 (-1)) 7 (-1)))), (q2, .inl (cI, 8, .inl (fun _ => 0))), (q3, .inl (cI, 800, .inl (fun _ => 0))), (q4, .inl (cI, 5, .inl (upd (upd (upd (upd (upd (fun _ => 0) 0 20) 1 6) 2 15) 3 10) 4 15))), (q5, .inl (cI, 6, .inl (fun _ => 0))), (q6, .inl (cI, 6, .inl (fun _ => 0))), (q7, .inl (cI, 4, .inl (fun _ => 0))), (q8, .inl (cI, 3, .inl (fun _ => 0))), (q9, .inl (cZ, 12, .inl (fun _ => 0)))] H := hP
  have hD : va_D A [(h0, .inr (9, [.int 0, .int 0, .ref q1, .ref q2, .ref q3, .ref q4, .int 0, .ref q5, .ref q6, .ref q7, .ref q8, .null, .null, .null, .int 0, .null, .null, .null, .null, .null, .int 0])), (q1, .inl (cI, 8, .inl (upd (upd (upd (upd (upd (upd (upd (upd (fun _ => 0) 0 (-1)) 1 (-1)) 2 (-1)) 3 (-1)) 4 (-1)) 5 (-1)) 6 (-1)) 7 (-1)))), (q2, .inl (cI, 8, .inl (fun _ => 0))), (q3, .inl (cI, 800, .inl (fun _ => 0))), (q4, .inl (cI, 5, .inl (upd (upd (upd (upd (upd (fun _ => 0) 0 20) 1 6) 2 15) 3 10) 4 15))), (q5, .inl (cI, 6, .inl (fun _ => 0))), (q6, .inl (cI, 6, .inl (fun _ => 0))), (q7, .inl (cI, 4, .inl (fun _ => 0))), (q8, .inl (cI, 3, .inl (fun _ => 0))), (q9, .inl (cZ, 12, .inl (fun _ => 0)))] := hD
  refine W.widen (k := 9) (n := 852) (by omega) (by omega) ?_
  refine va_putF (D := D) (ci := 9) (v := .ref q9) (ty := .array .boolean) (C := RX9) (T := TX9) (N := 21) hx hb hgw (uw (q := 26) rfl rfl rfl) tyX9 tyX9_ok nmX9 hown hK hP hD hS 0 rfl rfl 11 (by decide) (show (Cond.fieldLink "StoneWorksModel" 34 "StoneWorksModel" "isOpen" "[Z").before _ s = true from hgw _ (fl_in (10, 34, 9, 11) (by decide))) (fun _ h9 => h9) rfl hin rfl (by decide +kernel) rfl rfl (Nat.le_of_ble_eq_true rfl) dq_Model_130 (fun H locs hP hD hS => ?_)
  have hP : va_P D classes [(h0, .inr (9, [.int 0, .int 0, .ref q1, .ref q2, .ref q3, .ref q4, .int 0, .ref q5, .ref q6, .ref q7, .ref q8, .ref q9, .null, .null, .int 0, .null, .null, .null, .null, .null, .int 0])), (q1, .inl (cI, 8, .inl (upd (upd (upd (upd (upd (upd (upd (upd (fun _ => 0) 0 (-1)) 1 (-1)) 2 (-1)) 3 (-1)) 4 (-1)) 5 (-1)) 6 (-1)) 7 (-1)))), (q2, .inl (cI, 8, .inl (fun _ => 0))), (q3, .inl (cI, 800, .inl (fun _ => 0))), (q4, .inl (cI, 5, .inl (upd (upd (upd (upd (upd (fun _ => 0) 0 20) 1 6) 2 15) 3 10) 4 15))), (q5, .inl (cI, 6, .inl (fun _ => 0))), (q6, .inl (cI, 6, .inl (fun _ => 0))), (q7, .inl (cI, 4, .inl (fun _ => 0))), (q8, .inl (cI, 3, .inl (fun _ => 0))), (q9, .inl (cZ, 12, .inl (fun _ => 0)))] H := hP
  have hD : va_D A [(h0, .inr (9, [.int 0, .int 0, .ref q1, .ref q2, .ref q3, .ref q4, .int 0, .ref q5, .ref q6, .ref q7, .ref q8, .ref q9, .null, .null, .int 0, .null, .null, .null, .null, .null, .int 0])), (q1, .inl (cI, 8, .inl (upd (upd (upd (upd (upd (upd (upd (upd (fun _ => 0) 0 (-1)) 1 (-1)) 2 (-1)) 3 (-1)) 4 (-1)) 5 (-1)) 6 (-1)) 7 (-1)))), (q2, .inl (cI, 8, .inl (fun _ => 0))), (q3, .inl (cI, 800, .inl (fun _ => 0))), (q4, .inl (cI, 5, .inl (upd (upd (upd (upd (upd (fun _ => 0) 0 20) 1 6) 2 15) 3 10) 4 15))), (q5, .inl (cI, 6, .inl (fun _ => 0))), (q6, .inl (cI, 6, .inl (fun _ => 0))), (q7, .inl (cI, 4, .inl (fun _ => 0))), (q8, .inl (cI, 3, .inl (fun _ => 0))), (q9, .inl (cZ, 12, .inl (fun _ => 0)))] := hD
  refine lv_aload_n hx hb dq_Model_133 rfl (lv_at hl 0 rfl) ?_
  refine lv_bipush (v := 12) hx hb dq_Model_134 (by decide) ?_
  refine va_newI (N := 12) hx hb (hgw _ w_aI) hK hP hD hS hA (by decide) rfl (Nat.le_of_ble_eq_true rfl) (Nat.le_of_ble_eq_true rfl) (Nat.le_of_ble_eq_true rfl) dq_Model_136 (fun q10 H hP hD hS => ?_)
  have hP : va_P D classes [(h0, .inr (9, [.int 0, .int 0, .ref q1, .ref q2, .ref q3, .ref q4, .int 0, .ref q5, .ref q6, .ref q7, .ref q8, .ref q9, .null, .null, .int 0, .null, .null, .null, .null, .null, .int 0])), (q1, .inl (cI, 8, .inl (upd (upd (upd (upd (upd (upd (upd (upd (fun _ => 0) 0 (-1)) 1 (-1)) 2 (-1)) 3 (-1)) 4 (-1)) 5 (-1)) 6 (-1)) 7 (-1)))), (q2, .inl (cI, 8, .inl (fun _ => 0))), (q3, .inl (cI, 800, .inl (fun _ => 0))), (q4, .inl (cI, 5, .inl (upd (upd (upd (upd (upd (fun _ => 0) 0 20) 1 6) 2 15) 3 10) 4 15))), (q5, .inl (cI, 6, .inl (fun _ => 0))), (q6, .inl (cI, 6, .inl (fun _ => 0))), (q7, .inl (cI, 4, .inl (fun _ => 0))), (q8, .inl (cI, 3, .inl (fun _ => 0))), (q9, .inl (cZ, 12, .inl (fun _ => 0))), (q10, .inl (cI, 12, .inl (fun _ => 0)))] H := hP
  have hD : va_D A [(h0, .inr (9, [.int 0, .int 0, .ref q1, .ref q2, .ref q3, .ref q4, .int 0, .ref q5, .ref q6, .ref q7, .ref q8, .ref q9, .null, .null, .int 0, .null, .null, .null, .null, .null, .int 0])), (q1, .inl (cI, 8, .inl (upd (upd (upd (upd (upd (upd (upd (upd (fun _ => 0) 0 (-1)) 1 (-1)) 2 (-1)) 3 (-1)) 4 (-1)) 5 (-1)) 6 (-1)) 7 (-1)))), (q2, .inl (cI, 8, .inl (fun _ => 0))), (q3, .inl (cI, 800, .inl (fun _ => 0))), (q4, .inl (cI, 5, .inl (upd (upd (upd (upd (upd (fun _ => 0) 0 20) 1 6) 2 15) 3 10) 4 15))), (q5, .inl (cI, 6, .inl (fun _ => 0))), (q6, .inl (cI, 6, .inl (fun _ => 0))), (q7, .inl (cI, 4, .inl (fun _ => 0))), (q8, .inl (cI, 3, .inl (fun _ => 0))), (q9, .inl (cZ, 12, .inl (fun _ => 0))), (q10, .inl (cI, 12, .inl (fun _ => 0)))] := hD
  refine W.widen (k := 10) (n := 864) (by omega) (by omega) ?_
  refine va_putF (D := D) (ci := 9) (v := .ref q10) (ty := .array .int) (C := RX9) (T := TX9) (N := 21) hx hb hgw (uw (q := 26) rfl rfl rfl) tyX9 tyX9_ok nmX9 hown hK hP hD hS 0 rfl rfl 12 (by decide) (show (Cond.fieldLink "StoneWorksModel" 38 "StoneWorksModel" "gives" "[I").before _ s = true from hgw _ (fl_in (10, 38, 9, 12) (by decide))) (fun _ h9 => h9) rfl hin rfl (by decide +kernel) rfl rfl (Nat.le_of_ble_eq_true rfl) dq_Model_138 (fun H locs hP hD hS => ?_)
  have hP : va_P D classes [(h0, .inr (9, [.int 0, .int 0, .ref q1, .ref q2, .ref q3, .ref q4, .int 0, .ref q5, .ref q6, .ref q7, .ref q8, .ref q9, .ref q10, .null, .int 0, .null, .null, .null, .null, .null, .int 0])), (q1, .inl (cI, 8, .inl (upd (upd (upd (upd (upd (upd (upd (upd (fun _ => 0) 0 (-1)) 1 (-1)) 2 (-1)) 3 (-1)) 4 (-1)) 5 (-1)) 6 (-1)) 7 (-1)))), (q2, .inl (cI, 8, .inl (fun _ => 0))), (q3, .inl (cI, 800, .inl (fun _ => 0))), (q4, .inl (cI, 5, .inl (upd (upd (upd (upd (upd (fun _ => 0) 0 20) 1 6) 2 15) 3 10) 4 15))), (q5, .inl (cI, 6, .inl (fun _ => 0))), (q6, .inl (cI, 6, .inl (fun _ => 0))), (q7, .inl (cI, 4, .inl (fun _ => 0))), (q8, .inl (cI, 3, .inl (fun _ => 0))), (q9, .inl (cZ, 12, .inl (fun _ => 0))), (q10, .inl (cI, 12, .inl (fun _ => 0)))] H := hP
  have hD : va_D A [(h0, .inr (9, [.int 0, .int 0, .ref q1, .ref q2, .ref q3, .ref q4, .int 0, .ref q5, .ref q6, .ref q7, .ref q8, .ref q9, .ref q10, .null, .int 0, .null, .null, .null, .null, .null, .int 0])), (q1, .inl (cI, 8, .inl (upd (upd (upd (upd (upd (upd (upd (upd (fun _ => 0) 0 (-1)) 1 (-1)) 2 (-1)) 3 (-1)) 4 (-1)) 5 (-1)) 6 (-1)) 7 (-1)))), (q2, .inl (cI, 8, .inl (fun _ => 0))), (q3, .inl (cI, 800, .inl (fun _ => 0))), (q4, .inl (cI, 5, .inl (upd (upd (upd (upd (upd (fun _ => 0) 0 20) 1 6) 2 15) 3 10) 4 15))), (q5, .inl (cI, 6, .inl (fun _ => 0))), (q6, .inl (cI, 6, .inl (fun _ => 0))), (q7, .inl (cI, 4, .inl (fun _ => 0))), (q8, .inl (cI, 3, .inl (fun _ => 0))), (q9, .inl (cZ, 12, .inl (fun _ => 0))), (q10, .inl (cI, 12, .inl (fun _ => 0)))] := hD
  refine lv_aload_n hx hb dq_Model_141 rfl (lv_at hl 0 rfl) ?_
  refine lv_bipush (v := 8) hx hb dq_Model_142 (by decide) ?_
  refine va_newI (N := 8) hx hb (hgw _ w_aI) hK hP hD hS hA (by decide) rfl (Nat.le_of_ble_eq_true rfl) (Nat.le_of_ble_eq_true rfl) (Nat.le_of_ble_eq_true rfl) dq_Model_144 (fun q11 H hP hD hS => ?_)
  have hP : va_P D classes [(h0, .inr (9, [.int 0, .int 0, .ref q1, .ref q2, .ref q3, .ref q4, .int 0, .ref q5, .ref q6, .ref q7, .ref q8, .ref q9, .ref q10, .null, .int 0, .null, .null, .null, .null, .null, .int 0])), (q1, .inl (cI, 8, .inl (upd (upd (upd (upd (upd (upd (upd (upd (fun _ => 0) 0 (-1)) 1 (-1)) 2 (-1)) 3 (-1)) 4 (-1)) 5 (-1)) 6 (-1)) 7 (-1)))), (q2, .inl (cI, 8, .inl (fun _ => 0))), (q3, .inl (cI, 800, .inl (fun _ => 0))), (q4, .inl (cI, 5, .inl (upd (upd (upd (upd (upd (fun _ => 0) 0 20) 1 6) 2 15) 3 10) 4 15))), (q5, .inl (cI, 6, .inl (fun _ => 0))), (q6, .inl (cI, 6, .inl (fun _ => 0))), (q7, .inl (cI, 4, .inl (fun _ => 0))), (q8, .inl (cI, 3, .inl (fun _ => 0))), (q9, .inl (cZ, 12, .inl (fun _ => 0))), (q10, .inl (cI, 12, .inl (fun _ => 0))), (q11, .inl (cI, 8, .inl (fun _ => 0)))] H := hP
  have hD : va_D A [(h0, .inr (9, [.int 0, .int 0, .ref q1, .ref q2, .ref q3, .ref q4, .int 0, .ref q5, .ref q6, .ref q7, .ref q8, .ref q9, .ref q10, .null, .int 0, .null, .null, .null, .null, .null, .int 0])), (q1, .inl (cI, 8, .inl (upd (upd (upd (upd (upd (upd (upd (upd (fun _ => 0) 0 (-1)) 1 (-1)) 2 (-1)) 3 (-1)) 4 (-1)) 5 (-1)) 6 (-1)) 7 (-1)))), (q2, .inl (cI, 8, .inl (fun _ => 0))), (q3, .inl (cI, 800, .inl (fun _ => 0))), (q4, .inl (cI, 5, .inl (upd (upd (upd (upd (upd (fun _ => 0) 0 20) 1 6) 2 15) 3 10) 4 15))), (q5, .inl (cI, 6, .inl (fun _ => 0))), (q6, .inl (cI, 6, .inl (fun _ => 0))), (q7, .inl (cI, 4, .inl (fun _ => 0))), (q8, .inl (cI, 3, .inl (fun _ => 0))), (q9, .inl (cZ, 12, .inl (fun _ => 0))), (q10, .inl (cI, 12, .inl (fun _ => 0))), (q11, .inl (cI, 8, .inl (fun _ => 0)))] := hD
  refine W.widen (k := 11) (n := 872) (by omega) (by omega) ?_
  refine va_putF (D := D) (ci := 9) (v := .ref q11) (ty := .array .int) (C := RX9) (T := TX9) (N := 21) hx hb hgw (uw (q := 26) rfl rfl rfl) tyX9 tyX9_ok nmX9 hown hK hP hD hS 0 rfl rfl 13 (by decide) (show (Cond.fieldLink "StoneWorksModel" 41 "StoneWorksModel" "row" "[I").before _ s = true from hgw _ (fl_in (10, 41, 9, 13) (by decide))) (fun _ h9 => h9) rfl hin rfl (by decide +kernel) rfl rfl (Nat.le_of_ble_eq_true rfl) dq_Model_146 (fun H locs hP hD hS => ?_)
  have hP : va_P D classes [(h0, .inr (9, [.int 0, .int 0, .ref q1, .ref q2, .ref q3, .ref q4, .int 0, .ref q5, .ref q6, .ref q7, .ref q8, .ref q9, .ref q10, .ref q11, .int 0, .null, .null, .null, .null, .null, .int 0])), (q1, .inl (cI, 8, .inl (upd (upd (upd (upd (upd (upd (upd (upd (fun _ => 0) 0 (-1)) 1 (-1)) 2 (-1)) 3 (-1)) 4 (-1)) 5 (-1)) 6 (-1)) 7 (-1)))), (q2, .inl (cI, 8, .inl (fun _ => 0))), (q3, .inl (cI, 800, .inl (fun _ => 0))), (q4, .inl (cI, 5, .inl (upd (upd (upd (upd (upd (fun _ => 0) 0 20) 1 6) 2 15) 3 10) 4 15))), (q5, .inl (cI, 6, .inl (fun _ => 0))), (q6, .inl (cI, 6, .inl (fun _ => 0))), (q7, .inl (cI, 4, .inl (fun _ => 0))), (q8, .inl (cI, 3, .inl (fun _ => 0))), (q9, .inl (cZ, 12, .inl (fun _ => 0))), (q10, .inl (cI, 12, .inl (fun _ => 0))), (q11, .inl (cI, 8, .inl (fun _ => 0)))] H := hP
  have hD : va_D A [(h0, .inr (9, [.int 0, .int 0, .ref q1, .ref q2, .ref q3, .ref q4, .int 0, .ref q5, .ref q6, .ref q7, .ref q8, .ref q9, .ref q10, .ref q11, .int 0, .null, .null, .null, .null, .null, .int 0])), (q1, .inl (cI, 8, .inl (upd (upd (upd (upd (upd (upd (upd (upd (fun _ => 0) 0 (-1)) 1 (-1)) 2 (-1)) 3 (-1)) 4 (-1)) 5 (-1)) 6 (-1)) 7 (-1)))), (q2, .inl (cI, 8, .inl (fun _ => 0))), (q3, .inl (cI, 800, .inl (fun _ => 0))), (q4, .inl (cI, 5, .inl (upd (upd (upd (upd (upd (fun _ => 0) 0 20) 1 6) 2 15) 3 10) 4 15))), (q5, .inl (cI, 6, .inl (fun _ => 0))), (q6, .inl (cI, 6, .inl (fun _ => 0))), (q7, .inl (cI, 4, .inl (fun _ => 0))), (q8, .inl (cI, 3, .inl (fun _ => 0))), (q9, .inl (cZ, 12, .inl (fun _ => 0))), (q10, .inl (cI, 12, .inl (fun _ => 0))), (q11, .inl (cI, 8, .inl (fun _ => 0)))] := hD
  refine lv_aload_n hx hb dq_Model_149 rfl (lv_at hl 0 rfl) ?_
  refine lv_bipush (v := 68) hx hb dq_Model_150 (by decide) ?_
  refine va_newI (N := 68) hx hb (hgw _ w_aI) hK hP hD hS hA (by decide) rfl (Nat.le_of_ble_eq_true rfl) (Nat.le_of_ble_eq_true rfl) (Nat.le_of_ble_eq_true rfl) dq_Model_152 (fun q12 H hP hD hS => ?_)
  have hP : va_P D classes [(h0, .inr (9, [.int 0, .int 0, .ref q1, .ref q2, .ref q3, .ref q4, .int 0, .ref q5, .ref q6, .ref q7, .ref q8, .ref q9, .ref q10, .ref q11, .int 0, .null, .null, .null, .null, .null, .int 0])), (q1, .inl (cI, 8, .inl (upd (upd (upd (upd (upd (upd (upd (upd (fun _ => 0) 0 (-1)) 1 (-1)) 2 (-1)) 3 (-1)) 4 (-1)) 5 (-1)) 6 (-1)) 7 (-1)))), (q2, .inl (cI, 8, .inl (fun _ => 0))), (q3, .inl (cI, 800, .inl (fun _ => 0))), (q4, .inl (cI, 5, .inl (upd (upd (upd (upd (upd (fun _ => 0) 0 20) 1 6) 2 15) 3 10) 4 15))), (q5, .inl (cI, 6, .inl (fun _ => 0))), (q6, .inl (cI, 6, .inl (fun _ => 0))), (q7, .inl (cI, 4, .inl (fun _ => 0))), (q8, .inl (cI, 3, .inl (fun _ => 0))), (q9, .inl (cZ, 12, .inl (fun _ => 0))), (q10, .inl (cI, 12, .inl (fun _ => 0))), (q11, .inl (cI, 8, .inl (fun _ => 0))), (q12, .inl (cI, 68, .inl (fun _ => 0)))] H := hP
  have hD : va_D A [(h0, .inr (9, [.int 0, .int 0, .ref q1, .ref q2, .ref q3, .ref q4, .int 0, .ref q5, .ref q6, .ref q7, .ref q8, .ref q9, .ref q10, .ref q11, .int 0, .null, .null, .null, .null, .null, .int 0])), (q1, .inl (cI, 8, .inl (upd (upd (upd (upd (upd (upd (upd (upd (fun _ => 0) 0 (-1)) 1 (-1)) 2 (-1)) 3 (-1)) 4 (-1)) 5 (-1)) 6 (-1)) 7 (-1)))), (q2, .inl (cI, 8, .inl (fun _ => 0))), (q3, .inl (cI, 800, .inl (fun _ => 0))), (q4, .inl (cI, 5, .inl (upd (upd (upd (upd (upd (fun _ => 0) 0 20) 1 6) 2 15) 3 10) 4 15))), (q5, .inl (cI, 6, .inl (fun _ => 0))), (q6, .inl (cI, 6, .inl (fun _ => 0))), (q7, .inl (cI, 4, .inl (fun _ => 0))), (q8, .inl (cI, 3, .inl (fun _ => 0))), (q9, .inl (cZ, 12, .inl (fun _ => 0))), (q10, .inl (cI, 12, .inl (fun _ => 0))), (q11, .inl (cI, 8, .inl (fun _ => 0))), (q12, .inl (cI, 68, .inl (fun _ => 0)))] := hD
  refine W.widen (k := 12) (n := 940) (by omega) (by omega) ?_
  refine va_putF (D := D) (ci := 9) (v := .ref q12) (ty := .array .int) (C := RX9) (T := TX9) (N := 21) hx hb hgw (uw (q := 26) rfl rfl rfl) tyX9 tyX9_ok nmX9 hown hK hP hD hS 0 rfl rfl 15 (by decide) (show (Cond.fieldLink "StoneWorksModel" 44 "StoneWorksModel" "orderRow" "[I").before _ s = true from hgw _ (fl_in (10, 44, 9, 15) (by decide))) (fun _ h9 => h9) rfl hin rfl (by decide +kernel) rfl rfl (Nat.le_of_ble_eq_true rfl) dq_Model_154 (fun H locs hP hD hS => ?_)
  have hP : va_P D classes [(h0, .inr (9, [.int 0, .int 0, .ref q1, .ref q2, .ref q3, .ref q4, .int 0, .ref q5, .ref q6, .ref q7, .ref q8, .ref q9, .ref q10, .ref q11, .int 0, .ref q12, .null, .null, .null, .null, .int 0])), (q1, .inl (cI, 8, .inl (upd (upd (upd (upd (upd (upd (upd (upd (fun _ => 0) 0 (-1)) 1 (-1)) 2 (-1)) 3 (-1)) 4 (-1)) 5 (-1)) 6 (-1)) 7 (-1)))), (q2, .inl (cI, 8, .inl (fun _ => 0))), (q3, .inl (cI, 800, .inl (fun _ => 0))), (q4, .inl (cI, 5, .inl (upd (upd (upd (upd (upd (fun _ => 0) 0 20) 1 6) 2 15) 3 10) 4 15))), (q5, .inl (cI, 6, .inl (fun _ => 0))), (q6, .inl (cI, 6, .inl (fun _ => 0))), (q7, .inl (cI, 4, .inl (fun _ => 0))), (q8, .inl (cI, 3, .inl (fun _ => 0))), (q9, .inl (cZ, 12, .inl (fun _ => 0))), (q10, .inl (cI, 12, .inl (fun _ => 0))), (q11, .inl (cI, 8, .inl (fun _ => 0))), (q12, .inl (cI, 68, .inl (fun _ => 0)))] H := hP
  have hD : va_D A [(h0, .inr (9, [.int 0, .int 0, .ref q1, .ref q2, .ref q3, .ref q4, .int 0, .ref q5, .ref q6, .ref q7, .ref q8, .ref q9, .ref q10, .ref q11, .int 0, .ref q12, .null, .null, .null, .null, .int 0])), (q1, .inl (cI, 8, .inl (upd (upd (upd (upd (upd (upd (upd (upd (fun _ => 0) 0 (-1)) 1 (-1)) 2 (-1)) 3 (-1)) 4 (-1)) 5 (-1)) 6 (-1)) 7 (-1)))), (q2, .inl (cI, 8, .inl (fun _ => 0))), (q3, .inl (cI, 800, .inl (fun _ => 0))), (q4, .inl (cI, 5, .inl (upd (upd (upd (upd (upd (fun _ => 0) 0 20) 1 6) 2 15) 3 10) 4 15))), (q5, .inl (cI, 6, .inl (fun _ => 0))), (q6, .inl (cI, 6, .inl (fun _ => 0))), (q7, .inl (cI, 4, .inl (fun _ => 0))), (q8, .inl (cI, 3, .inl (fun _ => 0))), (q9, .inl (cZ, 12, .inl (fun _ => 0))), (q10, .inl (cI, 12, .inl (fun _ => 0))), (q11, .inl (cI, 8, .inl (fun _ => 0))), (q12, .inl (cI, 68, .inl (fun _ => 0)))] := hD
  refine lv_aload_n hx hb dq_Model_157 rfl (lv_at hl 0 rfl) ?_
  refine lv_bipush (v := 68) hx hb dq_Model_158 (by decide) ?_
  refine va_newI (N := 68) hx hb (hgw _ w_aI) hK hP hD hS hA (by decide) rfl (Nat.le_of_ble_eq_true rfl) (Nat.le_of_ble_eq_true rfl) (Nat.le_of_ble_eq_true rfl) dq_Model_160 (fun q13 H hP hD hS => ?_)
  have hP : va_P D classes [(h0, .inr (9, [.int 0, .int 0, .ref q1, .ref q2, .ref q3, .ref q4, .int 0, .ref q5, .ref q6, .ref q7, .ref q8, .ref q9, .ref q10, .ref q11, .int 0, .ref q12, .null, .null, .null, .null, .int 0])), (q1, .inl (cI, 8, .inl (upd (upd (upd (upd (upd (upd (upd (upd (fun _ => 0) 0 (-1)) 1 (-1)) 2 (-1)) 3 (-1)) 4 (-1)) 5 (-1)) 6 (-1)) 7 (-1)))), (q2, .inl (cI, 8, .inl (fun _ => 0))), (q3, .inl (cI, 800, .inl (fun _ => 0))), (q4, .inl (cI, 5, .inl (upd (upd (upd (upd (upd (fun _ => 0) 0 20) 1 6) 2 15) 3 10) 4 15))), (q5, .inl (cI, 6, .inl (fun _ => 0))), (q6, .inl (cI, 6, .inl (fun _ => 0))), (q7, .inl (cI, 4, .inl (fun _ => 0))), (q8, .inl (cI, 3, .inl (fun _ => 0))), (q9, .inl (cZ, 12, .inl (fun _ => 0))), (q10, .inl (cI, 12, .inl (fun _ => 0))), (q11, .inl (cI, 8, .inl (fun _ => 0))), (q12, .inl (cI, 68, .inl (fun _ => 0))), (q13, .inl (cI, 68, .inl (fun _ => 0)))] H := hP
  have hD : va_D A [(h0, .inr (9, [.int 0, .int 0, .ref q1, .ref q2, .ref q3, .ref q4, .int 0, .ref q5, .ref q6, .ref q7, .ref q8, .ref q9, .ref q10, .ref q11, .int 0, .ref q12, .null, .null, .null, .null, .int 0])), (q1, .inl (cI, 8, .inl (upd (upd (upd (upd (upd (upd (upd (upd (fun _ => 0) 0 (-1)) 1 (-1)) 2 (-1)) 3 (-1)) 4 (-1)) 5 (-1)) 6 (-1)) 7 (-1)))), (q2, .inl (cI, 8, .inl (fun _ => 0))), (q3, .inl (cI, 800, .inl (fun _ => 0))), (q4, .inl (cI, 5, .inl (upd (upd (upd (upd (upd (fun _ => 0) 0 20) 1 6) 2 15) 3 10) 4 15))), (q5, .inl (cI, 6, .inl (fun _ => 0))), (q6, .inl (cI, 6, .inl (fun _ => 0))), (q7, .inl (cI, 4, .inl (fun _ => 0))), (q8, .inl (cI, 3, .inl (fun _ => 0))), (q9, .inl (cZ, 12, .inl (fun _ => 0))), (q10, .inl (cI, 12, .inl (fun _ => 0))), (q11, .inl (cI, 8, .inl (fun _ => 0))), (q12, .inl (cI, 68, .inl (fun _ => 0))), (q13, .inl (cI, 68, .inl (fun _ => 0)))] := hD
  refine W.widen (k := 13) (n := 1008) (by omega) (by omega) ?_
  refine va_putF (D := D) (ci := 9) (v := .ref q13) (ty := .array .int) (C := RX9) (T := TX9) (N := 21) hx hb hgw (uw (q := 26) rfl rfl rfl) tyX9 tyX9_ok nmX9 hown hK hP hD hS 0 rfl rfl 16 (by decide) (show (Cond.fieldLink "StoneWorksModel" 47 "StoneWorksModel" "orderPlace" "[I").before _ s = true from hgw _ (fl_in (10, 47, 9, 16) (by decide))) (fun _ h9 => h9) rfl hin rfl (by decide +kernel) rfl rfl (Nat.le_of_ble_eq_true rfl) dq_Model_162 (fun H locs hP hD hS => ?_)
  have hP : va_P D classes [(h0, .inr (9, [.int 0, .int 0, .ref q1, .ref q2, .ref q3, .ref q4, .int 0, .ref q5, .ref q6, .ref q7, .ref q8, .ref q9, .ref q10, .ref q11, .int 0, .ref q12, .ref q13, .null, .null, .null, .int 0])), (q1, .inl (cI, 8, .inl (upd (upd (upd (upd (upd (upd (upd (upd (fun _ => 0) 0 (-1)) 1 (-1)) 2 (-1)) 3 (-1)) 4 (-1)) 5 (-1)) 6 (-1)) 7 (-1)))), (q2, .inl (cI, 8, .inl (fun _ => 0))), (q3, .inl (cI, 800, .inl (fun _ => 0))), (q4, .inl (cI, 5, .inl (upd (upd (upd (upd (upd (fun _ => 0) 0 20) 1 6) 2 15) 3 10) 4 15))), (q5, .inl (cI, 6, .inl (fun _ => 0))), (q6, .inl (cI, 6, .inl (fun _ => 0))), (q7, .inl (cI, 4, .inl (fun _ => 0))), (q8, .inl (cI, 3, .inl (fun _ => 0))), (q9, .inl (cZ, 12, .inl (fun _ => 0))), (q10, .inl (cI, 12, .inl (fun _ => 0))), (q11, .inl (cI, 8, .inl (fun _ => 0))), (q12, .inl (cI, 68, .inl (fun _ => 0))), (q13, .inl (cI, 68, .inl (fun _ => 0)))] H := hP
  have hD : va_D A [(h0, .inr (9, [.int 0, .int 0, .ref q1, .ref q2, .ref q3, .ref q4, .int 0, .ref q5, .ref q6, .ref q7, .ref q8, .ref q9, .ref q10, .ref q11, .int 0, .ref q12, .ref q13, .null, .null, .null, .int 0])), (q1, .inl (cI, 8, .inl (upd (upd (upd (upd (upd (upd (upd (upd (fun _ => 0) 0 (-1)) 1 (-1)) 2 (-1)) 3 (-1)) 4 (-1)) 5 (-1)) 6 (-1)) 7 (-1)))), (q2, .inl (cI, 8, .inl (fun _ => 0))), (q3, .inl (cI, 800, .inl (fun _ => 0))), (q4, .inl (cI, 5, .inl (upd (upd (upd (upd (upd (fun _ => 0) 0 20) 1 6) 2 15) 3 10) 4 15))), (q5, .inl (cI, 6, .inl (fun _ => 0))), (q6, .inl (cI, 6, .inl (fun _ => 0))), (q7, .inl (cI, 4, .inl (fun _ => 0))), (q8, .inl (cI, 3, .inl (fun _ => 0))), (q9, .inl (cZ, 12, .inl (fun _ => 0))), (q10, .inl (cI, 12, .inl (fun _ => 0))), (q11, .inl (cI, 8, .inl (fun _ => 0))), (q12, .inl (cI, 68, .inl (fun _ => 0))), (q13, .inl (cI, 68, .inl (fun _ => 0)))] := hD
  refine lv_aload_n hx hb dq_Model_165 rfl (lv_at hl 0 rfl) ?_
  refine lv_bipush (v := 8) hx hb dq_Model_166 (by decide) ?_
  refine va_newI (N := 8) hx hb (hgw _ w_aI) hK hP hD hS hA (by decide) rfl (Nat.le_of_ble_eq_true rfl) (Nat.le_of_ble_eq_true rfl) (Nat.le_of_ble_eq_true rfl) dq_Model_168 (fun q14 H hP hD hS => ?_)
  have hP : va_P D classes [(h0, .inr (9, [.int 0, .int 0, .ref q1, .ref q2, .ref q3, .ref q4, .int 0, .ref q5, .ref q6, .ref q7, .ref q8, .ref q9, .ref q10, .ref q11, .int 0, .ref q12, .ref q13, .null, .null, .null, .int 0])), (q1, .inl (cI, 8, .inl (upd (upd (upd (upd (upd (upd (upd (upd (fun _ => 0) 0 (-1)) 1 (-1)) 2 (-1)) 3 (-1)) 4 (-1)) 5 (-1)) 6 (-1)) 7 (-1)))), (q2, .inl (cI, 8, .inl (fun _ => 0))), (q3, .inl (cI, 800, .inl (fun _ => 0))), (q4, .inl (cI, 5, .inl (upd (upd (upd (upd (upd (fun _ => 0) 0 20) 1 6) 2 15) 3 10) 4 15))), (q5, .inl (cI, 6, .inl (fun _ => 0))), (q6, .inl (cI, 6, .inl (fun _ => 0))), (q7, .inl (cI, 4, .inl (fun _ => 0))), (q8, .inl (cI, 3, .inl (fun _ => 0))), (q9, .inl (cZ, 12, .inl (fun _ => 0))), (q10, .inl (cI, 12, .inl (fun _ => 0))), (q11, .inl (cI, 8, .inl (fun _ => 0))), (q12, .inl (cI, 68, .inl (fun _ => 0))), (q13, .inl (cI, 68, .inl (fun _ => 0))), (q14, .inl (cI, 8, .inl (fun _ => 0)))] H := hP
  have hD : va_D A [(h0, .inr (9, [.int 0, .int 0, .ref q1, .ref q2, .ref q3, .ref q4, .int 0, .ref q5, .ref q6, .ref q7, .ref q8, .ref q9, .ref q10, .ref q11, .int 0, .ref q12, .ref q13, .null, .null, .null, .int 0])), (q1, .inl (cI, 8, .inl (upd (upd (upd (upd (upd (upd (upd (upd (fun _ => 0) 0 (-1)) 1 (-1)) 2 (-1)) 3 (-1)) 4 (-1)) 5 (-1)) 6 (-1)) 7 (-1)))), (q2, .inl (cI, 8, .inl (fun _ => 0))), (q3, .inl (cI, 800, .inl (fun _ => 0))), (q4, .inl (cI, 5, .inl (upd (upd (upd (upd (upd (fun _ => 0) 0 20) 1 6) 2 15) 3 10) 4 15))), (q5, .inl (cI, 6, .inl (fun _ => 0))), (q6, .inl (cI, 6, .inl (fun _ => 0))), (q7, .inl (cI, 4, .inl (fun _ => 0))), (q8, .inl (cI, 3, .inl (fun _ => 0))), (q9, .inl (cZ, 12, .inl (fun _ => 0))), (q10, .inl (cI, 12, .inl (fun _ => 0))), (q11, .inl (cI, 8, .inl (fun _ => 0))), (q12, .inl (cI, 68, .inl (fun _ => 0))), (q13, .inl (cI, 68, .inl (fun _ => 0))), (q14, .inl (cI, 8, .inl (fun _ => 0)))] := hD
  refine W.widen (k := 14) (n := 1016) (by omega) (by omega) ?_
  refine va_putF (D := D) (ci := 9) (v := .ref q14) (ty := .array .int) (C := RX9) (T := TX9) (N := 21) hx hb hgw (uw (q := 26) rfl rfl rfl) tyX9 tyX9_ok nmX9 hown hK hP hD hS 0 rfl rfl 17 (by decide) (show (Cond.fieldLink "StoneWorksModel" 50 "StoneWorksModel" "then" "[I").before _ s = true from hgw _ (fl_in (10, 50, 9, 17) (by decide))) (fun _ h9 => h9) rfl hin rfl (by decide +kernel) rfl rfl (Nat.le_of_ble_eq_true rfl) dq_Model_170 (fun H locs hP hD hS => ?_)
  have hP : va_P D classes [(h0, .inr (9, [.int 0, .int 0, .ref q1, .ref q2, .ref q3, .ref q4, .int 0, .ref q5, .ref q6, .ref q7, .ref q8, .ref q9, .ref q10, .ref q11, .int 0, .ref q12, .ref q13, .ref q14, .null, .null, .int 0])), (q1, .inl (cI, 8, .inl (upd (upd (upd (upd (upd (upd (upd (upd (fun _ => 0) 0 (-1)) 1 (-1)) 2 (-1)) 3 (-1)) 4 (-1)) 5 (-1)) 6 (-1)) 7 (-1)))), (q2, .inl (cI, 8, .inl (fun _ => 0))), (q3, .inl (cI, 800, .inl (fun _ => 0))), (q4, .inl (cI, 5, .inl (upd (upd (upd (upd (upd (fun _ => 0) 0 20) 1 6) 2 15) 3 10) 4 15))), (q5, .inl (cI, 6, .inl (fun _ => 0))), (q6, .inl (cI, 6, .inl (fun _ => 0))), (q7, .inl (cI, 4, .inl (fun _ => 0))), (q8, .inl (cI, 3, .inl (fun _ => 0))), (q9, .inl (cZ, 12, .inl (fun _ => 0))), (q10, .inl (cI, 12, .inl (fun _ => 0))), (q11, .inl (cI, 8, .inl (fun _ => 0))), (q12, .inl (cI, 68, .inl (fun _ => 0))), (q13, .inl (cI, 68, .inl (fun _ => 0))), (q14, .inl (cI, 8, .inl (fun _ => 0)))] H := hP
  have hD : va_D A [(h0, .inr (9, [.int 0, .int 0, .ref q1, .ref q2, .ref q3, .ref q4, .int 0, .ref q5, .ref q6, .ref q7, .ref q8, .ref q9, .ref q10, .ref q11, .int 0, .ref q12, .ref q13, .ref q14, .null, .null, .int 0])), (q1, .inl (cI, 8, .inl (upd (upd (upd (upd (upd (upd (upd (upd (fun _ => 0) 0 (-1)) 1 (-1)) 2 (-1)) 3 (-1)) 4 (-1)) 5 (-1)) 6 (-1)) 7 (-1)))), (q2, .inl (cI, 8, .inl (fun _ => 0))), (q3, .inl (cI, 800, .inl (fun _ => 0))), (q4, .inl (cI, 5, .inl (upd (upd (upd (upd (upd (fun _ => 0) 0 20) 1 6) 2 15) 3 10) 4 15))), (q5, .inl (cI, 6, .inl (fun _ => 0))), (q6, .inl (cI, 6, .inl (fun _ => 0))), (q7, .inl (cI, 4, .inl (fun _ => 0))), (q8, .inl (cI, 3, .inl (fun _ => 0))), (q9, .inl (cZ, 12, .inl (fun _ => 0))), (q10, .inl (cI, 12, .inl (fun _ => 0))), (q11, .inl (cI, 8, .inl (fun _ => 0))), (q12, .inl (cI, 68, .inl (fun _ => 0))), (q13, .inl (cI, 68, .inl (fun _ => 0))), (q14, .inl (cI, 8, .inl (fun _ => 0)))] := hD
  refine lv_aload_n hx hb dq_Model_173 rfl (lv_at hl 0 rfl) ?_
  refine lv_bipush (v := 100) hx hb dq_Model_174 (by decide) ?_
  refine va_newI (N := 100) hx hb (hgw _ w_aI) hK hP hD hS hA (by decide) rfl (Nat.le_of_ble_eq_true rfl) (Nat.le_of_ble_eq_true rfl) (Nat.le_of_ble_eq_true rfl) dq_Model_176 (fun q15 H hP hD hS => ?_)
  have hP : va_P D classes [(h0, .inr (9, [.int 0, .int 0, .ref q1, .ref q2, .ref q3, .ref q4, .int 0, .ref q5, .ref q6, .ref q7, .ref q8, .ref q9, .ref q10, .ref q11, .int 0, .ref q12, .ref q13, .ref q14, .null, .null, .int 0])), (q1, .inl (cI, 8, .inl (upd (upd (upd (upd (upd (upd (upd (upd (fun _ => 0) 0 (-1)) 1 (-1)) 2 (-1)) 3 (-1)) 4 (-1)) 5 (-1)) 6 (-1)) 7 (-1)))), (q2, .inl (cI, 8, .inl (fun _ => 0))), (q3, .inl (cI, 800, .inl (fun _ => 0))), (q4, .inl (cI, 5, .inl (upd (upd (upd (upd (upd (fun _ => 0) 0 20) 1 6) 2 15) 3 10) 4 15))), (q5, .inl (cI, 6, .inl (fun _ => 0))), (q6, .inl (cI, 6, .inl (fun _ => 0))), (q7, .inl (cI, 4, .inl (fun _ => 0))), (q8, .inl (cI, 3, .inl (fun _ => 0))), (q9, .inl (cZ, 12, .inl (fun _ => 0))), (q10, .inl (cI, 12, .inl (fun _ => 0))), (q11, .inl (cI, 8, .inl (fun _ => 0))), (q12, .inl (cI, 68, .inl (fun _ => 0))), (q13, .inl (cI, 68, .inl (fun _ => 0))), (q14, .inl (cI, 8, .inl (fun _ => 0))), (q15, .inl (cI, 100, .inl (fun _ => 0)))] H := hP
  have hD : va_D A [(h0, .inr (9, [.int 0, .int 0, .ref q1, .ref q2, .ref q3, .ref q4, .int 0, .ref q5, .ref q6, .ref q7, .ref q8, .ref q9, .ref q10, .ref q11, .int 0, .ref q12, .ref q13, .ref q14, .null, .null, .int 0])), (q1, .inl (cI, 8, .inl (upd (upd (upd (upd (upd (upd (upd (upd (fun _ => 0) 0 (-1)) 1 (-1)) 2 (-1)) 3 (-1)) 4 (-1)) 5 (-1)) 6 (-1)) 7 (-1)))), (q2, .inl (cI, 8, .inl (fun _ => 0))), (q3, .inl (cI, 800, .inl (fun _ => 0))), (q4, .inl (cI, 5, .inl (upd (upd (upd (upd (upd (fun _ => 0) 0 20) 1 6) 2 15) 3 10) 4 15))), (q5, .inl (cI, 6, .inl (fun _ => 0))), (q6, .inl (cI, 6, .inl (fun _ => 0))), (q7, .inl (cI, 4, .inl (fun _ => 0))), (q8, .inl (cI, 3, .inl (fun _ => 0))), (q9, .inl (cZ, 12, .inl (fun _ => 0))), (q10, .inl (cI, 12, .inl (fun _ => 0))), (q11, .inl (cI, 8, .inl (fun _ => 0))), (q12, .inl (cI, 68, .inl (fun _ => 0))), (q13, .inl (cI, 68, .inl (fun _ => 0))), (q14, .inl (cI, 8, .inl (fun _ => 0))), (q15, .inl (cI, 100, .inl (fun _ => 0)))] := hD
  refine W.widen (k := 15) (n := 1116) (by omega) (by omega) ?_
  refine va_putF (D := D) (ci := 9) (v := .ref q15) (ty := .array .int) (C := RX9) (T := TX9) (N := 21) hx hb hgw (uw (q := 26) rfl rfl rfl) tyX9 tyX9_ok nmX9 hown hK hP hD hS 0 rfl rfl 18 (by decide) (show (Cond.fieldLink "StoneWorksModel" 53 "StoneWorksModel" "patch" "[I").before _ s = true from hgw _ (fl_in (10, 53, 9, 18) (by decide))) (fun _ h9 => h9) rfl hin rfl (by decide +kernel) rfl rfl (Nat.le_of_ble_eq_true rfl) dq_Model_178 (fun H locs hP hD hS => ?_)
  have hP : va_P D classes [(h0, .inr (9, [.int 0, .int 0, .ref q1, .ref q2, .ref q3, .ref q4, .int 0, .ref q5, .ref q6, .ref q7, .ref q8, .ref q9, .ref q10, .ref q11, .int 0, .ref q12, .ref q13, .ref q14, .ref q15, .null, .int 0])), (q1, .inl (cI, 8, .inl (upd (upd (upd (upd (upd (upd (upd (upd (fun _ => 0) 0 (-1)) 1 (-1)) 2 (-1)) 3 (-1)) 4 (-1)) 5 (-1)) 6 (-1)) 7 (-1)))), (q2, .inl (cI, 8, .inl (fun _ => 0))), (q3, .inl (cI, 800, .inl (fun _ => 0))), (q4, .inl (cI, 5, .inl (upd (upd (upd (upd (upd (fun _ => 0) 0 20) 1 6) 2 15) 3 10) 4 15))), (q5, .inl (cI, 6, .inl (fun _ => 0))), (q6, .inl (cI, 6, .inl (fun _ => 0))), (q7, .inl (cI, 4, .inl (fun _ => 0))), (q8, .inl (cI, 3, .inl (fun _ => 0))), (q9, .inl (cZ, 12, .inl (fun _ => 0))), (q10, .inl (cI, 12, .inl (fun _ => 0))), (q11, .inl (cI, 8, .inl (fun _ => 0))), (q12, .inl (cI, 68, .inl (fun _ => 0))), (q13, .inl (cI, 68, .inl (fun _ => 0))), (q14, .inl (cI, 8, .inl (fun _ => 0))), (q15, .inl (cI, 100, .inl (fun _ => 0)))] H := hP
  have hD : va_D A [(h0, .inr (9, [.int 0, .int 0, .ref q1, .ref q2, .ref q3, .ref q4, .int 0, .ref q5, .ref q6, .ref q7, .ref q8, .ref q9, .ref q10, .ref q11, .int 0, .ref q12, .ref q13, .ref q14, .ref q15, .null, .int 0])), (q1, .inl (cI, 8, .inl (upd (upd (upd (upd (upd (upd (upd (upd (fun _ => 0) 0 (-1)) 1 (-1)) 2 (-1)) 3 (-1)) 4 (-1)) 5 (-1)) 6 (-1)) 7 (-1)))), (q2, .inl (cI, 8, .inl (fun _ => 0))), (q3, .inl (cI, 800, .inl (fun _ => 0))), (q4, .inl (cI, 5, .inl (upd (upd (upd (upd (upd (fun _ => 0) 0 20) 1 6) 2 15) 3 10) 4 15))), (q5, .inl (cI, 6, .inl (fun _ => 0))), (q6, .inl (cI, 6, .inl (fun _ => 0))), (q7, .inl (cI, 4, .inl (fun _ => 0))), (q8, .inl (cI, 3, .inl (fun _ => 0))), (q9, .inl (cZ, 12, .inl (fun _ => 0))), (q10, .inl (cI, 12, .inl (fun _ => 0))), (q11, .inl (cI, 8, .inl (fun _ => 0))), (q12, .inl (cI, 68, .inl (fun _ => 0))), (q13, .inl (cI, 68, .inl (fun _ => 0))), (q14, .inl (cI, 8, .inl (fun _ => 0))), (q15, .inl (cI, 100, .inl (fun _ => 0)))] := hD
  refine lv_aload_n hx hb dq_Model_181 rfl (lv_at hl 0 rfl) ?_
  refine lv_bipush (v := 16) hx hb dq_Model_182 (by decide) ?_
  refine va_newI (N := 16) hx hb (hgw _ w_aI) hK hP hD hS hA (by decide) rfl (Nat.le_of_ble_eq_true rfl) (Nat.le_of_ble_eq_true rfl) (Nat.le_of_ble_eq_true rfl) dq_Model_184 (fun q16 H hP hD hS => ?_)
  have hP : va_P D classes [(h0, .inr (9, [.int 0, .int 0, .ref q1, .ref q2, .ref q3, .ref q4, .int 0, .ref q5, .ref q6, .ref q7, .ref q8, .ref q9, .ref q10, .ref q11, .int 0, .ref q12, .ref q13, .ref q14, .ref q15, .null, .int 0])), (q1, .inl (cI, 8, .inl (upd (upd (upd (upd (upd (upd (upd (upd (fun _ => 0) 0 (-1)) 1 (-1)) 2 (-1)) 3 (-1)) 4 (-1)) 5 (-1)) 6 (-1)) 7 (-1)))), (q2, .inl (cI, 8, .inl (fun _ => 0))), (q3, .inl (cI, 800, .inl (fun _ => 0))), (q4, .inl (cI, 5, .inl (upd (upd (upd (upd (upd (fun _ => 0) 0 20) 1 6) 2 15) 3 10) 4 15))), (q5, .inl (cI, 6, .inl (fun _ => 0))), (q6, .inl (cI, 6, .inl (fun _ => 0))), (q7, .inl (cI, 4, .inl (fun _ => 0))), (q8, .inl (cI, 3, .inl (fun _ => 0))), (q9, .inl (cZ, 12, .inl (fun _ => 0))), (q10, .inl (cI, 12, .inl (fun _ => 0))), (q11, .inl (cI, 8, .inl (fun _ => 0))), (q12, .inl (cI, 68, .inl (fun _ => 0))), (q13, .inl (cI, 68, .inl (fun _ => 0))), (q14, .inl (cI, 8, .inl (fun _ => 0))), (q15, .inl (cI, 100, .inl (fun _ => 0))), (q16, .inl (cI, 16, .inl (fun _ => 0)))] H := hP
  have hD : va_D A [(h0, .inr (9, [.int 0, .int 0, .ref q1, .ref q2, .ref q3, .ref q4, .int 0, .ref q5, .ref q6, .ref q7, .ref q8, .ref q9, .ref q10, .ref q11, .int 0, .ref q12, .ref q13, .ref q14, .ref q15, .null, .int 0])), (q1, .inl (cI, 8, .inl (upd (upd (upd (upd (upd (upd (upd (upd (fun _ => 0) 0 (-1)) 1 (-1)) 2 (-1)) 3 (-1)) 4 (-1)) 5 (-1)) 6 (-1)) 7 (-1)))), (q2, .inl (cI, 8, .inl (fun _ => 0))), (q3, .inl (cI, 800, .inl (fun _ => 0))), (q4, .inl (cI, 5, .inl (upd (upd (upd (upd (upd (fun _ => 0) 0 20) 1 6) 2 15) 3 10) 4 15))), (q5, .inl (cI, 6, .inl (fun _ => 0))), (q6, .inl (cI, 6, .inl (fun _ => 0))), (q7, .inl (cI, 4, .inl (fun _ => 0))), (q8, .inl (cI, 3, .inl (fun _ => 0))), (q9, .inl (cZ, 12, .inl (fun _ => 0))), (q10, .inl (cI, 12, .inl (fun _ => 0))), (q11, .inl (cI, 8, .inl (fun _ => 0))), (q12, .inl (cI, 68, .inl (fun _ => 0))), (q13, .inl (cI, 68, .inl (fun _ => 0))), (q14, .inl (cI, 8, .inl (fun _ => 0))), (q15, .inl (cI, 100, .inl (fun _ => 0))), (q16, .inl (cI, 16, .inl (fun _ => 0)))] := hD
  refine W.widen (k := 16) (n := 1132) (by omega) (by omega) ?_
  refine va_putF (D := D) (ci := 9) (v := .ref q16) (ty := .array .int) (C := RX9) (T := TX9) (N := 21) hx hb hgw (uw (q := 26) rfl rfl rfl) tyX9 tyX9_ok nmX9 hown hK hP hD hS 0 rfl rfl 19 (by decide) (show (Cond.fieldLink "StoneWorksModel" 56 "StoneWorksModel" "trace" "[I").before _ s = true from hgw _ (fl_in (10, 56, 9, 19) (by decide))) (fun _ h9 => h9) rfl hin rfl (by decide +kernel) rfl rfl (Nat.le_of_ble_eq_true rfl) dq_Model_186 (fun H locs hP hD hS => ?_)
  have hP : va_P D classes [(h0, .inr (9, [.int 0, .int 0, .ref q1, .ref q2, .ref q3, .ref q4, .int 0, .ref q5, .ref q6, .ref q7, .ref q8, .ref q9, .ref q10, .ref q11, .int 0, .ref q12, .ref q13, .ref q14, .ref q15, .ref q16, .int 0])), (q1, .inl (cI, 8, .inl (upd (upd (upd (upd (upd (upd (upd (upd (fun _ => 0) 0 (-1)) 1 (-1)) 2 (-1)) 3 (-1)) 4 (-1)) 5 (-1)) 6 (-1)) 7 (-1)))), (q2, .inl (cI, 8, .inl (fun _ => 0))), (q3, .inl (cI, 800, .inl (fun _ => 0))), (q4, .inl (cI, 5, .inl (upd (upd (upd (upd (upd (fun _ => 0) 0 20) 1 6) 2 15) 3 10) 4 15))), (q5, .inl (cI, 6, .inl (fun _ => 0))), (q6, .inl (cI, 6, .inl (fun _ => 0))), (q7, .inl (cI, 4, .inl (fun _ => 0))), (q8, .inl (cI, 3, .inl (fun _ => 0))), (q9, .inl (cZ, 12, .inl (fun _ => 0))), (q10, .inl (cI, 12, .inl (fun _ => 0))), (q11, .inl (cI, 8, .inl (fun _ => 0))), (q12, .inl (cI, 68, .inl (fun _ => 0))), (q13, .inl (cI, 68, .inl (fun _ => 0))), (q14, .inl (cI, 8, .inl (fun _ => 0))), (q15, .inl (cI, 100, .inl (fun _ => 0))), (q16, .inl (cI, 16, .inl (fun _ => 0)))] H := hP
  have hD : va_D A [(h0, .inr (9, [.int 0, .int 0, .ref q1, .ref q2, .ref q3, .ref q4, .int 0, .ref q5, .ref q6, .ref q7, .ref q8, .ref q9, .ref q10, .ref q11, .int 0, .ref q12, .ref q13, .ref q14, .ref q15, .ref q16, .int 0])), (q1, .inl (cI, 8, .inl (upd (upd (upd (upd (upd (upd (upd (upd (fun _ => 0) 0 (-1)) 1 (-1)) 2 (-1)) 3 (-1)) 4 (-1)) 5 (-1)) 6 (-1)) 7 (-1)))), (q2, .inl (cI, 8, .inl (fun _ => 0))), (q3, .inl (cI, 800, .inl (fun _ => 0))), (q4, .inl (cI, 5, .inl (upd (upd (upd (upd (upd (fun _ => 0) 0 20) 1 6) 2 15) 3 10) 4 15))), (q5, .inl (cI, 6, .inl (fun _ => 0))), (q6, .inl (cI, 6, .inl (fun _ => 0))), (q7, .inl (cI, 4, .inl (fun _ => 0))), (q8, .inl (cI, 3, .inl (fun _ => 0))), (q9, .inl (cZ, 12, .inl (fun _ => 0))), (q10, .inl (cI, 12, .inl (fun _ => 0))), (q11, .inl (cI, 8, .inl (fun _ => 0))), (q12, .inl (cI, 68, .inl (fun _ => 0))), (q13, .inl (cI, 68, .inl (fun _ => 0))), (q14, .inl (cI, 8, .inl (fun _ => 0))), (q15, .inl (cI, 100, .inl (fun _ => 0))), (q16, .inl (cI, 16, .inl (fun _ => 0)))] := hD
  exact W.vret hx hb hr (fun t ht hW => ⟨⟨(), rfl, trivial, q1, q2, q3, q4, q5, q6, q7, q8, q9, q10, q11, q12, q13, q14, q15, q16, by rw [ht]; exact hP, hD⟩, hS.F ht⟩) hS.2.2 dq_Model_189
set_option maxHeartbeats 8000000 in
set_option maxRecDepth 100000 in
theorem k_Sheets (l : Launch) (D : va_G) (cI cZ : ClassId) (h0 sz : Nat) : Met l yk_Sheets (kW_Sheets :: gw) ({ frames := 1, cells := 3, slots := 816, locals := 23 }) (va_Pc [.ref h0] (fun U => U.heap.size = sz ∧ va_P D classes [(h0, .inr (5, [.null, .null, .null]))] U.heap ∧ va_K D classes (tyc cI cZ) U ∧ va_D (fun _ => True) [(h0, .inr (5, [.null, .null, .null]))])) (va_Qv (fun _ : Unit => True) (fun _ t => ∃ q1 q2 q3 : Nat, va_P D classes [(h0, .inr (5, [.ref q1, .ref q2, .ref q3])), (q1, .inl (cI, 800, .inl (fun _ => 0))), (q2, .inl (cI, 8, .inl (fun _ => 0))), (q3, .inl (cI, 8, .inl (fun j => if j < 8 then (-1) else 0)))] t.heap ∧ va_D (va_A [(h0, .inr (5, [.null, .null, .null]))] sz) [(h0, .inr (5, [.ref q1, .ref q2, .ref q3])), (q1, .inl (cI, 800, .inl (fun _ => 0))), (q2, .inl (cI, 8, .inl (fun _ => 0))), (q3, .inl (cI, 8, .inl (fun j => if j < 8 then (-1) else 0)))]) (va_A [(h0, .inr (5, [.null, .null, .null]))] sz)) 3 816 (va_A [(h0, .inr (5, [.null, .null, .null]))] sz) := by
  refine Met.ofW (cc := prog_7_method_1_code) (maxL := 1) (ret := none) (by decide) rfl ?_
  intro p e s m args below meth c s₁ B hml hv
  obtain ⟨rfl, hsz, hP, hK, hD0⟩ := hv
  have hx := B.exec
  have hb := B.bytes
  have hr := B.returns
  have hts := atoms_spec (ws := kW_Sheets :: gw) B.pre
  have hgw := fun (w : Cond) (hw : w ∈ gw) => hts w (List.mem_cons_of_mem _ hw)
  have hown : s.vm.findClass "StoneWorks$Sheets" = some m.cls := findClass_of_methodNamed B.named
  have hlocks := B.notSynchronized
  have hin : meth.name = "<init>" := (name_of_methodNamed B.named B.method).1
  subst hsz
  have hD := hD0.self (sz := s.heap.size)
  generalize hAe : va_A [(h0, .inr (5, [.null, .null, .null]))] s.heap.size = A at hD ⊢
  have hA : ∀ q : Nat, s.heap.size ≤ q → A q := fun q h => by rw [← hAe]; exact Or.inr h
  have hS : va_S A s.heap s.heap [] := va_S.rf
  have hP : va_P D classes [(h0, .inr (5, [.null, .null, .null]))] s.heap := hP
  have hl := lv_entry ([.ref h0]) (n := 1) (Nat.le_of_ble_eq_true rfl)
  rw [lg_entry_eq]
  generalize (lg_sl ([.ref h0]) ++ List.replicate (1 - (lg_sl ([.ref h0])).length) Slot.unset).toArray = ls at hl ⊢
  have hl : lv_has ls 1 [(0, .ref h0)] := hl
  refine lv_aload_n hx hb dq_Sheets_0 rfl (lv_at hl 0 rfl) ?_
  refine W.objInit hx hb hown (hgw _ ko_Sheets) (hgw _ w_oi) (hgw _ w_oc) rfl (by rw [hml]; exact hl.1) rfl dq_Sheets_1 (Nat.le_of_ble_eq_true rfl) (Nat.le_of_ble_eq_true rfl) ?_
  refine W.eq (g2 := F0 m 4 ls []) rfl ?_
  refine lv_aload_n hx hb dq_Sheets_4 rfl (lv_at hl 0 rfl) ?_
  refine lv_sipush (v := 800) hx hb dq_Sheets_5 (by decide) ?_
  refine va_newI (N := 800) hx hb (hgw _ w_aI) hK hP hD hS hA (by decide) rfl (Nat.le_of_ble_eq_true rfl) (Nat.le_of_ble_eq_true rfl) (Nat.le_of_ble_eq_true rfl) dq_Sheets_8 (fun q1 H hP hD hS => ?_)
  have hP : va_P D classes [(h0, .inr (5, [.null, .null, .null])), (q1, .inl (cI, 800, .inl (fun _ => 0)))] H := hP
  have hD : va_D A [(h0, .inr (5, [.null, .null, .null])), (q1, .inl (cI, 800, .inl (fun _ => 0)))] := hD
  refine W.widen (k := 1) (n := 800) (by omega) (by omega) ?_
  refine va_putF (D := D) (ci := 5) (v := .ref q1) (ty := .array .int) (C := RX5) (T := TX5) (N := 3) hx hb hgw (uw (q := 1) rfl rfl rfl) tyX5 tyX5_ok nmX5 hown hK hP hD hS 0 rfl rfl 0 (by decide) (show (Cond.fieldLink "StoneWorks$Sheets" 11 "StoneWorks$Sheets" "items" "[I").before _ s = true from hgw _ (fl_in (6, 11, 5, 0) (by decide))) (fun _ h9 => h9) rfl hin rfl (by decide +kernel) rfl rfl (Nat.le_of_ble_eq_true rfl) dq_Sheets_10 (fun H locs hP hD hS => ?_)
  have hP : va_P D classes [(h0, .inr (5, [.ref q1, .null, .null])), (q1, .inl (cI, 800, .inl (fun _ => 0)))] H := hP
  have hD : va_D A [(h0, .inr (5, [.ref q1, .null, .null])), (q1, .inl (cI, 800, .inl (fun _ => 0)))] := hD
  refine lv_aload_n hx hb dq_Sheets_13 rfl (lv_at hl 0 rfl) ?_
  refine lv_bipush (v := 8) hx hb dq_Sheets_14 (by decide) ?_
  refine va_newI (N := 8) hx hb (hgw _ w_aI) hK hP hD hS hA (by decide) rfl (Nat.le_of_ble_eq_true rfl) (Nat.le_of_ble_eq_true rfl) (Nat.le_of_ble_eq_true rfl) dq_Sheets_16 (fun q2 H hP hD hS => ?_)
  have hP : va_P D classes [(h0, .inr (5, [.ref q1, .null, .null])), (q1, .inl (cI, 800, .inl (fun _ => 0))), (q2, .inl (cI, 8, .inl (fun _ => 0)))] H := hP
  have hD : va_D A [(h0, .inr (5, [.ref q1, .null, .null])), (q1, .inl (cI, 800, .inl (fun _ => 0))), (q2, .inl (cI, 8, .inl (fun _ => 0)))] := hD
  refine W.widen (k := 2) (n := 808) (by omega) (by omega) ?_
  refine va_putF (D := D) (ci := 5) (v := .ref q2) (ty := .array .int) (C := RX5) (T := TX5) (N := 3) hx hb hgw (uw (q := 1) rfl rfl rfl) tyX5 tyX5_ok nmX5 hown hK hP hD hS 0 rfl rfl 1 (by decide) (show (Cond.fieldLink "StoneWorks$Sheets" 15 "StoneWorks$Sheets" "lanes" "[I").before _ s = true from hgw _ (fl_in (6, 15, 5, 1) (by decide))) (fun _ h9 => h9) rfl hin rfl (by decide +kernel) rfl rfl (Nat.le_of_ble_eq_true rfl) dq_Sheets_18 (fun H locs hP hD hS => ?_)
  have hP : va_P D classes [(h0, .inr (5, [.ref q1, .ref q2, .null])), (q1, .inl (cI, 800, .inl (fun _ => 0))), (q2, .inl (cI, 8, .inl (fun _ => 0)))] H := hP
  have hD : va_D A [(h0, .inr (5, [.ref q1, .ref q2, .null])), (q1, .inl (cI, 800, .inl (fun _ => 0))), (q2, .inl (cI, 8, .inl (fun _ => 0)))] := hD
  refine lv_aload_n hx hb dq_Sheets_21 rfl (lv_at hl 0 rfl) ?_
  refine lv_bipush (v := 8) hx hb dq_Sheets_22 (by decide) ?_
  refine va_newI (N := 8) hx hb (hgw _ w_aI) hK hP hD hS hA (by decide) rfl (Nat.le_of_ble_eq_true rfl) (Nat.le_of_ble_eq_true rfl) (Nat.le_of_ble_eq_true rfl) dq_Sheets_24 (fun q3 H hP hD hS => ?_)
  have hP : va_P D classes [(h0, .inr (5, [.ref q1, .ref q2, .null])), (q1, .inl (cI, 800, .inl (fun _ => 0))), (q2, .inl (cI, 8, .inl (fun _ => 0))), (q3, .inl (cI, 8, .inl (fun _ => 0)))] H := hP
  have hD : va_D A [(h0, .inr (5, [.ref q1, .ref q2, .null])), (q1, .inl (cI, 800, .inl (fun _ => 0))), (q2, .inl (cI, 8, .inl (fun _ => 0))), (q3, .inl (cI, 8, .inl (fun _ => 0)))] := hD
  refine W.widen (k := 3) (n := 816) (by omega) (by omega) ?_
  refine va_putF (D := D) (ci := 5) (v := .ref q3) (ty := .array .int) (C := RX5) (T := TX5) (N := 3) hx hb hgw (uw (q := 1) rfl rfl rfl) tyX5 tyX5_ok nmX5 hown hK hP hD hS 0 rfl rfl 2 (by decide) (show (Cond.fieldLink "StoneWorks$Sheets" 18 "StoneWorks$Sheets" "sizes" "[I").before _ s = true from hgw _ (fl_in (6, 18, 5, 2) (by decide))) (fun _ h9 => h9) rfl hin rfl (by decide +kernel) rfl rfl (Nat.le_of_ble_eq_true rfl) dq_Sheets_26 (fun H locs hP hD hS => ?_)
  have hP : va_P D classes [(h0, .inr (5, [.ref q1, .ref q2, .ref q3])), (q1, .inl (cI, 800, .inl (fun _ => 0))), (q2, .inl (cI, 8, .inl (fun _ => 0))), (q3, .inl (cI, 8, .inl (fun _ => 0)))] H := hP
  have hD : va_D A [(h0, .inr (5, [.ref q1, .ref q2, .ref q3])), (q1, .inl (cI, 800, .inl (fun _ => 0))), (q2, .inl (cI, 8, .inl (fun _ => 0))), (q3, .inl (cI, 8, .inl (fun _ => 0)))] := hD
  refine lv_aload_n hx hb dq_Sheets_29 rfl (lv_at hl 0 rfl) ?_
  refine va_get (D := D) (ci := 5) (v := .ref q3) (C := RX5) (T := TX5) (N := 3) hx hb hgw (uw (q := 1) rfl rfl rfl) hown hK hP 0 rfl rfl 2 (by decide) (show (Cond.fieldLink "StoneWorks$Sheets" 18 "StoneWorks$Sheets" "sizes" "[I").before _ s = true from hgw _ (fl_in (6, 18, 5, 2) (by decide))) (fun _ h9 => h9) rfl dq_Sheets_30 ?_
  refine lv_iconst (v := (-1)) hx hb dq_Sheets_33 (by decide) ?_
  have hPc := hP.sub (ws' := [(q3, .inl (cI, 8, .inl (fun _ => 0)))]) [3] rfl
  have hDc := hD.sub (ws' := [(q3, .inl (cI, 8, .inl (fun _ => 0)))]) [3] (by decide) rfl
  have hFc := va_free (wc := [(q3, .inl (cI, 8, .inl (fun _ => 0)))]) hD hS hA [3] rfl
  refine va_callv (va_runS (As := [.ref q3, .int (-1)]) (rest := []) ⟨hx, hb, hml, hown, hgw⟩ (k_fill l D cI cZ q3 H.size (-1)) (va_cwS 2 hgw (gw_cons km_fill (gw_good km_fill) (gw_cons kf_8 (gw_good kf_8) (gw_cons kf_3 (gw_good kf_3) (gw_in (a := 0) (by decide))))) rfl rfl rfl ⟨kf_5, kf_6, by decide +kernel⟩ ⟨Nat.le_of_ble_eq_true rfl, Nat.le_of_ble_eq_true rfl⟩) ⟨k_bl, fun U hU hW => ⟨rfl, by rw [hU], by rw [hU]; exact hPc, va_K.moved hW.alike hK, hDc.weaken (fun _ _ _ _ => trivial)⟩⟩ rfl rfl hl.1 rfl (lv_room (Nat.le_of_ble_eq_true rfl)) dq_Sheets_34 ⟨Nat.le_of_ble_eq_true rfl, Nat.le_of_ble_eq_true rfl⟩) hS (fun q _ h => hFc q h) hFc (fun u t H1 locs ht hvm hw hB hz1 hk1 hS => ?_)
  obtain ⟨hP1, hD1⟩ := hB
  rw [ht] at hP1
  obtain ⟨hP, hD⟩ := va_join (wr := [(h0, .inr (5, [.ref q1, .ref q2, .ref q3])), (q1, .inl (cI, 800, .inl (fun _ => 0))), (q2, .inl (cI, 8, .inl (fun _ => 0)))]) (w1 := [(q3, .inl (cI, 8, .inl (fun j => if j < 8 then (-1) else 0)))]) hP hD [3] [0, 1, 2] rfl rfl (by decide) (by decide) hk1 hFc hP1 hD1
  generalize H1 = H at hP hS ⊢
  have hP : va_P D classes [(h0, .inr (5, [.ref q1, .ref q2, .ref q3])), (q1, .inl (cI, 800, .inl (fun _ => 0))), (q2, .inl (cI, 8, .inl (fun _ => 0))), (q3, .inl (cI, 8, .inl (fun j => if j < 8 then (-1) else 0)))] H := hP
  have hD : va_D A [(h0, .inr (5, [.ref q1, .ref q2, .ref q3])), (q1, .inl (cI, 800, .inl (fun _ => 0))), (q2, .inl (cI, 8, .inl (fun _ => 0))), (q3, .inl (cI, 8, .inl (fun j => if j < 8 then (-1) else 0)))] := hD
  exact W.vret hx hb hr (fun t ht hW => ⟨⟨(), rfl, trivial, q1, q2, q3, by rw [ht]; exact hP, hD⟩, hS.F ht⟩) hS.2.2 dq_Sheets_37
