/-! calls -/
noncomputable def methOK (a : Nat) : Bool := decide (a ∈ ordC) && decide (cN (mO a) = (mY a).cls) && decide (mO a ∈ ordN) && Jvm.plainName (mY a).cls && decide ((mY a).cls ≠ "java/lang/invoke/MethodHandle") && decide ((mY a).cls ≠ "java/lang/invoke/VarHandle") && (match mK a with
  | 0 => decide (a ∈ ordI) && decide (a ∈ ordX)
  | _ => decide (a ∈ ordS))
theorem meth_all : (List.range 174).all methOK = true := by decide +kernel
theorem mls_lt : mls.all (fun q => Nat.blt q.2.2 174) = true := by decide +kernel
theorem nls_lt : nls.all (fun q => Nat.blt q.2.2 174) = true := by decide +kernel
theorem sls_sp : sls.all (fun q => decide (q.2.2 = 900) || decide (q.2.2 = 901) || decide (q.2.2 = 902) || decide (q.2.2 = 903)) = true := by decide +kernel
theorem meth_ok {a : Nat} (h : a < 174) : cW a ∈ gw ∧ cN (mO a) = (mY a).cls ∧ Cond.initialized (mY a).cls ∈ gw ∧ Jvm.plainName (mY a).cls = true ∧ (mY a).cls ≠ "java/lang/invoke/MethodHandle" ∧ (mY a).cls ≠ "java/lang/invoke/VarHandle" ∧ (mK a = 0 → Cond.instanceMethod (mY a) ∈ gw ∧ Cond.selects (mY a).cls (mY a) (mY a) ∈ gw) ∧ (mK a = 1 → Cond.static (mY a) ∈ gw) := by
  have h1 := List.all_eq_true.mp meth_all a (List.mem_range.mpr h)
  unfold methOK at h1
  have g1 := decide_eq_true_eq.mp (and1 (and1 (and1 (and1 (and1 (and1 h1))))))
  have g2 := decide_eq_true_eq.mp (and2 (and1 (and1 (and1 (and1 (and1 h1))))))
  have g3 := decide_eq_true_eq.mp (and2 (and1 (and1 (and1 (and1 h1)))))
  have g4 := and2 (and1 (and1 (and1 h1)))
  have g5 := decide_eq_true_eq.mp (and2 (and1 (and1 h1)))
  have g6 := decide_eq_true_eq.mp (and2 (and1 h1))
  have g7 := and2 h1
  refine ⟨ordC_gw g1, g2, ?_, g4, g5, g6, fun hk => ?_, fun hk => ?_⟩
  · rw [← g2]
    exact inA_gw ordN_ok (List.mem_map.mpr ⟨_, g3, rfl⟩)
  · rw [hk] at g7
    exact ⟨inA_gw ordI_ok (List.mem_map.mpr ⟨_, decide_eq_true_eq.mp (and1 g7), rfl⟩), inA_gw ordX_ok (List.mem_map.mpr ⟨_, decide_eq_true_eq.mp (and2 g7), rfl⟩)⟩
  · rw [hk] at g7
    exact inA_gw ordS_ok (List.mem_map.mpr ⟨_, decide_eq_true_eq.mp g7, rfl⟩)
theorem gw_in {a : Nat} (h : a < 174) : GoodIn gw (cW a :: gw) := by
  intro w hw
  rcases List.mem_cons.mp hw with q | q
  · rw [q]; exact ⟨(meth_ok h).1, good_of_word (gw_good (meth_ok h).1)⟩
  · exact ⟨q, good_of_word (gw_good q)⟩
theorem gw_cons {big ws : List Cond} {w : Cond} (h : w ∈ big) (hg : goodWord w = true) (ht : GoodIn big ws) : GoodIn big (w :: ws) := by
  intro v hv
  rcases List.mem_cons.mp hv with q | q
  · rw [q]; exact ⟨h, good_of_word hg⟩
  · exact ht v q
theorem Ao_sub {X : Xt} {E : Ev} {G : Gt} {A : Nat → Prop} {s : State} {H : Heap} {locs : List Loc} (hA : ∀ q, s.heap.size ≤ q → A q) (hD : va_D A (ws E G)) (hS : va_S A s.heap H locs) : ∀ q, Ao E H.size q → A q := by
  intro q h
  rcases h with ⟨k, hk, rfl⟩ | h
  · exact hD.2 k _ (ws_at hk)
  · exact hA q (Nat.le_trans hS.1 h)
theorem Wd_pre {X : Xt} {E : Ev} {mi : Nat} {p : Program} {R : Room} {s : State} {m : MethodId} {args : Array Value} {c : Code} {A : Nat → Prop} {cells slots : Nat} {G : Gt} {H : Heap} {locs : List Loc} (F : FX X E mi p R s m args c A cells slots) (hP : va_P E.1 classes (ws E G) H) (hD : va_D A (ws E G)) (hS : va_S A s.heap H locs) (U : State) (hU : U.heap = H) (hW : s.WarmedH U.vm) : Wd X E H.size G U := by
  refine ⟨by rw [hU], by rw [hU]; exact hP, va_K.moved hW.alike F.2.2.2.1, ⟨hD.1, fun k q hk => ?_⟩, fun q hq => va_Nw.warmM hW (F.2.2.1 q hq), ?_⟩
  · obtain ⟨h1, h2⟩ := ws_inv hk
    exact Or.inl ⟨k, h1, by rw [h2]⟩
  · rw [hU]
    exact ((F.2.2.2.2.2.1.kept hS.2.1).narrow (Ao_sub (X := X) F.2.2.2.2.1 hD hS)).moved hW.alike
theorem Wd_blind {X : Xt} {E : Ev} {sz : Nat} {G : Gt} {av : List Value} : FrameBlind (va_Pc av (Wd X E sz G)) := by
  intro a U g mk h
  obtain ⟨h1, h2, h3, h4, h5, h6, h7⟩ := h
  exact ⟨h1, h2, h3, va_K.moved (u := U) (U := U.calling g mk a) (Vm.Alike.refl U.vm) h4, h5, fun q hq => va_Nw.same (u := U) (U := U.calling g mk a) rfl rfl (h6 q hq), XT.moved (u := U) (U := U.calling g mk a) (Vm.Alike.refl U.vm) h7⟩
theorem callU {E : Ev} {mj : Nat} {Q' : Qt} {p : Program} {l : Launch} {e : Env} {R : Room} {s : State} {m : MethodId} {args : Array Value} {below : List Frame} {meth : Method} {c : Code} {H : Heap} {locs : List Loc} {cells slots pc : Nat} {ls : Array Slot} {st0 rest : List Value} {a : Array Value} {A A1 : Nat → Prop} {H0 : Heap} {Z : State → Prop}
    (hr : va_Run p l e R s m args below meth c H locs cells slots 0 0 (F0 m pc ls st0) rest (QU E mj Q' A1 a) A1) (hS : va_S A H0 H locs) (hA : ∀ q, A1 q → A q)
    (kk : ∀ (r : Option Value) (G' : Gt) (H1 : Heap) (locs1 : List Loc), rok mj r → Q' r G' → va_P E.1 classes (ws E G') H1 → va_D A (ws E G') → va_S A H0 H1 locs1 → W p l e R s m args below meth c H1 locs1 cells slots Z (F0 m (pc + 3) ls (r.toList ++ rest))) : W p l e R s m args below meth c H locs cells slots Z (F0 m pc ls st0) := by
  intro T hT X
  obtain ⟨v, st₀, t, T', L, h0, X', hL, e1, e2, ⟨⟨r, G', hv, hk1, hq, hP, hD⟩, hz, hk⟩, st⟩ := hr T hT X
  cases hv
  rw [h0] at hz hk
  obtain ⟨t2, a1, b1⟩ := kk v G' T'.heap (locs ++ L) hk1 hq (by rw [e1]; exact hP) (hD.weaken (fun k q _ h => hA q.1 h))
    ⟨Nat.le_trans hS.1 (by rw [e1]; exact hz), fun q h1 h2 => by rw [e1, hk q (Nat.lt_of_lt_of_le h1 hS.1) (fun z => h2 (hA q z))]; exact hS.2.1 q h1 h2, fun q hq => by
      rcases List.mem_append.mp hq with h | h
      · exact hS.2.2 q h
      · exact hA _ (hL q h)⟩ T' rfl X'
  exact ⟨t2, st t2 a1, b1⟩
theorem rok_cS {mj : Nat} {r : Option Value} (E : Ev) (st : List Value) (h : rok mj r) : cS E (r.toList ++ st) = r.toList ++ cS E st := by
  rcases rok_cases h with ⟨rfl, -⟩ | ⟨v, rfl, -⟩ | ⟨v, rfl, -, -⟩ | ⟨v, rfl, -⟩ <;> rfl
set_option maxHeartbeats 4000000 in
theorem s_invokevirtual {X : Xt} {mi pc nxt a b : Nat} {v : Int32} {w : Int64} {ts : List Nat} {L : Lt} {st : List Value} {G : Gt} {Q : Qt} {i : Nat} {nx : Nt} (hn : ∀ pc L st G, nx pc L st G → wp X mi pc L st G Q) (hd : decode (mB mi) pc = .ok (.invokevirtual i, nxt - pc)) (hc : chk mi (pc, .invokevirtual i, nxt, a, b, v, w, ts) = true) (h : stp X mi (.invokevirtual i) nxt a b v w ts L st G Q nx) : wp X mi pc L st G Q := by
  unfold stp at h
  dsimp only at h
  split at h
  · rename_i as q r htk
    split at h
    · rename_i ci fs hly
      split at h
      · rename_i hb
        have hb1 := Nat.eq_of_beq_eq_true (and1 hb)
        have hb2 := Nat.le_of_ble_eq_true (and2 hb)
        have hm := decide_eq_true_eq.mp (and2 (and1 hc))
        have e : nxt = pc + 3 := Nat.eq_of_beq_eq_true (and1 (and1 hc))
        subst e
        have hd := dlen hd
        have hK0 := Nat.eq_of_beq_eq_true (and1 (and1 (and2 hc)))
        have hrm := and2 (and1 (and2 hc))
        have hpar := decide_eq_true_eq.mp (and2 (and2 hc))
        have hlt := blt_ok (List.all_eq_true.mp mls_lt _ hm)
        obtain ⟨w1, w2, w3, w4, w5, w6, w7, -⟩ := meth_ok hlt
        obtain ⟨w7, w8⟩ := w7 hK0
        have hmL : Cond.methodLink (cN (mO mi)) i (mY a) ∈ gw := inA_gw mls_ok (List.mem_map.mpr ⟨_, hm, rfl⟩)
        have hq := (lay_lt hly).2.1 (by omega)
        obtain ⟨hlen, hst⟩ := tk_ok htk
        intro E p l e R s m args below meth c A H locs cells slots ls Z F hr hP hD hS hl
        have hci : ∃ z, classes[ci]? = some z ∧ z.1 = (mY a).cls := by
          have h1 := List.all_eq_true.mp lay_ob _ (List.mem_of_getElem? hly)
          unfold obOK at h1
          dsimp only at h1
          cases hcc : classes[ci]? with
          | none => rw [hcc] at h1; cases h1
          | some z =>
            refine ⟨z, rfl, ?_⟩
            have hc10 : ci < 10 := (List.getElem?_eq_some_iff.mp hcc).1
            rw [← ocR_ok ci hc10 z hcc, hb1, w2]
        obtain ⟨z, hcc, hz⟩ := hci
        refine callU (va_runV (C := (mY a).cls) (As := cS E as) (rest := cS E r) (b := E.2.1 q) ⟨F.1.1, F.1.2.1, F.1.2.2.1, F.1.2.2.2, F.2.1⟩ (h E l H.size) (cwV b F.2.1 (gw_cons hmL (gw_good hmL) (gw_cons w7 (gw_good w7) (gw_cons w8 (gw_good w8) (gw_cons w3 (gw_good w3) (gw_in hlt))))) rfl rfl rfl ⟨rfl, w5, w6, hpar⟩ ⟨Nat.le_trans (Nat.le_of_ble_eq_true (and1 hrm)) F.2.2.2.2.2.2.1, Nat.le_trans (Nat.le_of_ble_eq_true (and2 hrm)) F.2.2.2.2.2.2.2.1⟩)
          ⟨Wd_blind, ?_, fun U hU hW => ⟨rfl, Wd_pre F hP hD hS U hU hW⟩⟩ rfl (by simp [cS]; rw [hlen]; rfl) hl.1 ?_ (lv_room (by rw [catS_ok]; exact hb2)) hd ⟨F.2.2.2.2.2.2.2.2.1, F.2.2.2.2.2.2.2.2.2⟩) hS (Ao_sub (X := X) F.2.2.2.2.1 hD hS) (fun v G' H1 locs1 hk hQ hP hD hS => ?_)
        · rw [← hz]
          exact va_recv F.2.2.2.1 hP hcc (by rw [ws_at hq, cE_obj hly])
        · show cS E st = (cS E as).reverse ++ .ref (E.2.1 q) :: cS E r
          have h3 : st = as.reverse ++ .ref q :: r := by rw [hst]; rfl
          rw [h3]
          simp [cS, cv]
        · rw [← rok_cS E r hk]
          exact hn _ _ _ _ hQ E p l e R s m args below meth c A H1 locs1 cells slots ls Z F hr hP hD hS hl
      · exact h.elim
    · exact h.elim
  · exact h.elim
set_option maxHeartbeats 4000000 in
theorem s_static {X : Xt} {mi pc nxt a b : Nat} {v : Int32} {w : Int64} {ts : List Nat} {L : Lt} {st : List Value} {G : Gt} {Q : Qt} {i : Nat} (ha : ¬ 900 ≤ a) {nx : Nt} (hn : ∀ pc L st G, nx pc L st G → wp X mi pc L st G Q) (hd : decode (mB mi) pc = .ok (.invokestatic i, nxt - pc)) (hc : chk mi (pc, .invokestatic i, nxt, a, b, v, w, ts) = true) (h : match tk b [] st with
      | some (as, r) => (match Nat.ble (catS r) 8 with
        | true => con X a as G (fun v G' => nx nxt L (v.toList ++ r) G')
        | false => False)
      | _ => False) : wp X mi pc L st G Q := by
  split at h
  · rename_i as r htk
    split at h
    · rename_i hb
      have hb2 := Nat.le_of_ble_eq_true hb
      unfold chk at hc
      dsimp only at hc
      rw [if_neg ha] at hc
      have hm := and2 (and1 hc)
      have e : nxt = pc + 3 := Nat.eq_of_beq_eq_true (and1 (and1 hc))
      subst e
      have hd := dlen hd
      have hK1 := Nat.eq_of_beq_eq_true (and1 (and1 (and2 hc)))
      have hrm := and2 (and1 (and2 hc))
      have hpar := decide_eq_true_eq.mp (and2 (and2 hc))
      obtain ⟨hlen, hst⟩ := tk_ok htk
      have hstk : ∀ E : Ev, cS E st = (cS E as).reverse ++ cS E r := by
        intro E
        have h3 : st = as.reverse ++ r := by rw [hst]; rfl
        rw [h3]
        simp [cS]
      by_cases hm1 : (mO mi, i, a) ∈ mls
      · have hlt := blt_ok (List.all_eq_true.mp mls_lt _ hm1)
        obtain ⟨w1, w2, w3, w4, w5, w6, -, w8⟩ := meth_ok hlt
        have w8 := w8 hK1
        have hmL : Cond.methodLink (cN (mO mi)) i (mY a) ∈ gw := inA_gw mls_ok (List.mem_map.mpr ⟨_, hm1, rfl⟩)
        intro E p l e R s m args below meth c A H locs cells slots ls Z F hr hP hD hS hl
        refine callU (va_runS (As := cS E as) (rest := cS E r) ⟨F.1.1, F.1.2.1, F.1.2.2.1, F.1.2.2.2, F.2.1⟩ (h E l H.size) (va_cwS b F.2.1 (gw_cons hmL (gw_good hmL) (gw_cons w8 (gw_good w8) (gw_cons w3 (gw_good w3) (gw_in hlt)))) rfl rfl rfl ⟨w5, w6, hpar⟩ ⟨Nat.le_trans (Nat.le_of_ble_eq_true (and1 hrm)) F.2.2.2.2.2.2.1, Nat.le_trans (Nat.le_of_ble_eq_true (and2 hrm)) F.2.2.2.2.2.2.2.1⟩)
          ⟨Wd_blind, fun U hU hW => ⟨rfl, Wd_pre F hP hD hS U hU hW⟩⟩ rfl (by simp [cS]; rw [hlen]; rfl) hl.1 (hstk E) (lv_room (by rw [catS_ok]; exact hb2)) hd ⟨F.2.2.2.2.2.2.2.2.1, F.2.2.2.2.2.2.2.2.2⟩) hS (Ao_sub (X := X) F.2.2.2.2.1 hD hS) (fun v G' H1 locs1 hk hQ hP hD hS => ?_)
        rw [← rok_cS E r hk]
        exact hn _ _ _ _ hQ E p l e R s m args below meth c A H1 locs1 cells slots ls Z F hr hP hD hS hl
      · have hm2 : (mO mi, i, a) ∈ nls := by
          rcases Bool.or_eq_true _ _ ▸ hm with q | q
          · exact absurd (decide_eq_true_eq.mp q) hm1
          · exact decide_eq_true_eq.mp q
        have hlt := blt_ok (List.all_eq_true.mp nls_lt _ hm2)
        obtain ⟨w1, w2, w3, w4, w5, w6, -, w8⟩ := meth_ok hlt
        have w8 := w8 hK1
        intro E p l e R s m args below meth c A H locs cells slots ls Z F hr hP hD hS hl
        have hnw := F.2.2.1 (mO mi, i, a) hm2
        unfold nW at hnw
        dsimp only at hnw
        have cn : va_CN R s args (cN (mO mi)) i (mY a) "StoneWorks" (mB a) (mL a) (mR a) (cW a :: gw) { frames := mF a, cells := 0, slots := 0, locals := mLo a } 0 0 b := va_cnB b F.2.1 (gw_in hlt) rfl rfl rfl hnw (F.2.1 _ w3) ⟨w5, w6, hpar⟩ ⟨Nat.le_trans (Nat.le_of_ble_eq_true (and1 hrm)) F.2.2.2.2.2.2.1, Nat.le_trans (Nat.le_of_ble_eq_true (and2 hrm)) F.2.2.2.2.2.2.2.1⟩
        refine callU (va_runSN (host := "StoneWorks") (As := cS E as) (rest := cS E r) ⟨F.1.1, F.1.2.1, F.1.2.2.1, F.1.2.2.2, F.2.1⟩ (h E l H.size) ⟨cn, F.2.1 _ w8, trivial⟩
          ⟨Wd_blind, fun U hU hW => ⟨rfl, Wd_pre F hP hD hS U hU hW⟩⟩ rfl (by simp [cS]; rw [hlen]; rfl) hl.1 (hstk E) (lv_room (by rw [catS_ok]; exact hb2)) hd ⟨F.2.2.2.2.2.2.2.2.1, F.2.2.2.2.2.2.2.2.2⟩) hS (Ao_sub (X := X) F.2.2.2.2.1 hD hS) (fun v G' H1 locs1 hk hQ hP hD hS => ?_)
        rw [← rok_cS E r hk]
        exact hn _ _ _ _ hQ E p l e R s m args below meth c A H1 locs1 cells slots ls Z F hr hP hD hS hl
    · exact h.elim
  · exact h.elim
theorem jdk_ok : [Cond.static Lib.Math.max.name, .static Lib.Math.min.name, .static Lib.Math.abs.name, .static arraycopyName, .native arraycopyName, .initialized "java/lang/Math", .initialized "java/lang/System", .code Lib.Math.max.name Lib.Math.max.code 2 (some .int), .code Lib.Math.min.name Lib.Math.min.code 2 (some .int), .code Lib.Math.abs.name Lib.Math.abs.code 1 (some .int)].all (fun w => decide (w ∈ lw_tbl) && goodWord w) = true := by decide +kernel
theorem jdk_in {w : Cond} (h : w ∈ [Cond.static Lib.Math.max.name, .static Lib.Math.min.name, .static Lib.Math.abs.name, .static arraycopyName, .native arraycopyName, .initialized "java/lang/Math", .initialized "java/lang/System", .code Lib.Math.max.name Lib.Math.max.code 2 (some .int), .code Lib.Math.min.name Lib.Math.min.code 2 (some .int), .code Lib.Math.abs.name Lib.Math.abs.code 1 (some .int)]) : w ∈ gw := by
  have h1 := List.all_eq_true.mp jdk_ok w h
  exact List.mem_filter.mpr ⟨decide_eq_true_eq.mp (and1 h1), and2 h1⟩
set_option maxHeartbeats 4000000 in
theorem s_invokestatic {X : Xt} {mi pc nxt a b : Nat} {v : Int32} {w : Int64} {ts : List Nat} {L : Lt} {st : List Value} {G : Gt} {Q : Qt} {i : Nat} {nx : Nt} (hn : ∀ pc L st G, nx pc L st G → wp X mi pc L st G Q) (hd : decode (mB mi) pc = .ok (.invokestatic i, nxt - pc)) (hc : chk mi (pc, .invokestatic i, nxt, a, b, v, w, ts) = true) (h : stp X mi (.invokestatic i) nxt a b v w ts L st G Q nx) : wp X mi pc L st G Q := by
  by_cases ha : 900 ≤ a
  · have hc2 := hc
    unfold chk at hc2
    dsimp only at hc2
    rw [if_pos ha] at hc2
    have hm := decide_eq_true_eq.mp (and2 (and1 (and1 hc2)))
    have e : nxt = pc + 3 := Nat.eq_of_beq_eq_true (and1 (and1 (and1 hc2)))
    subst e
    have hd := dlen hd
    have hf := Nat.le_of_ble_eq_true (and2 (and1 hc2))
    have hlo := Nat.le_of_ble_eq_true (and2 hc2)
    have hlk : sW (mO mi, i, a) ∈ gw := inA_gw sls_ok (List.mem_map.mpr ⟨_, hm, rfl⟩)
    have hsp := List.all_eq_true.mp sls_sp _ hm
    simp only [Bool.or_eq_true, decide_eq_true_eq] at hsp
    rcases hsp with ((rfl | rfl) | rfl) | rfl
    · replace h : (match (generalizing := false) st with
          | .int y :: .int x :: r => (match Nat.ble (catS r) 8 with
            | true => nx (pc + 3) L (.int (if x < y then y else x) :: r) G
            | false => False)
          | _ => False) := h
      split at h
      · rename_i y x r
        split at h
        · rename_i hb
          have hb := Nat.le_of_ble_eq_true hb
          intro E p l e R s m args below meth c A H locs cells slots ls Z F hr hP hD hS hl
          have hR := F.2.2.2.2.2.2
          exact va_mmax F.1.1 F.1.2.1 (by rw [F.1.2.2.1, hl.1]) F.1.2.2.2 (F.2.1 _ hlk) (F.2.1 _ (jdk_in (by simp))) (F.2.1 _ (jdk_in (by simp))) (F.2.1 _ (jdk_in (by simp))) (Nat.le_trans hf hR.1) (by show ((cS E r).map fun v => v.category).sum + 13 ≤ _; rw [catS_ok]; simp at hlo; omega) hR.2.2.1 hR.2.2.2 hd (hn _ _ _ _ h E p l e R s m args below meth c A H locs cells slots ls Z F hr hP hD hS hl)
        · exact h.elim
      · exact h.elim
    · replace h : (match (generalizing := false) st with
          | .int y :: .int x :: r => (match Nat.ble (catS r) 8 with
            | true => nx (pc + 3) L (.int (if y < x then y else x) :: r) G
            | false => False)
          | _ => False) := h
      split at h
      · rename_i y x r
        split at h
        · rename_i hb
          have hb := Nat.le_of_ble_eq_true hb
          intro E p l e R s m args below meth c A H locs cells slots ls Z F hr hP hD hS hl
          have hR := F.2.2.2.2.2.2
          exact va_mmin F.1.1 F.1.2.1 (by rw [F.1.2.2.1, hl.1]) F.1.2.2.2 (F.2.1 _ hlk) (F.2.1 _ (jdk_in (by simp))) (F.2.1 _ (jdk_in (by simp))) (F.2.1 _ (jdk_in (by simp))) (Nat.le_trans hf hR.1) (by show ((cS E r).map fun v => v.category).sum + 13 ≤ _; rw [catS_ok]; simp at hlo; omega) hR.2.2.1 hR.2.2.2 hd (hn _ _ _ _ h E p l e R s m args below meth c A H locs cells slots ls Z F hr hP hD hS hl)
        · exact h.elim
      · exact h.elim
    · replace h : (match (generalizing := false) st with
          | .int x :: r => (match Nat.ble (catS r) 8 with
            | true => nx (pc + 3) L (.int (if 0 ≤ x then x else 0 - x) :: r) G
            | false => False)
          | _ => False) := h
      split at h
      · rename_i x r
        split at h
        · rename_i hb
          have hb := Nat.le_of_ble_eq_true hb
          intro E p l e R s m args below meth c A H locs cells slots ls Z F hr hP hD hS hl
          have hR := F.2.2.2.2.2.2
          exact va_mabs F.1.1 F.1.2.1 (by rw [F.1.2.2.1, hl.1]) F.1.2.2.2 (F.2.1 _ hlk) (F.2.1 _ (jdk_in (by simp))) (F.2.1 _ (jdk_in (by simp))) (F.2.1 _ (jdk_in (by simp))) (Nat.le_trans hf hR.1) (by show ((cS E r).map fun v => v.category).sum + 13 ≤ _; rw [catS_ok]; simp at hlo; omega) hR.2.2.1 hR.2.2.2 hd (hn _ _ _ _ h E p l e R s m args below meth c A H locs cells slots ls Z F hr hP hD hS hl)
        · exact h.elim
      · exact h.elim
    · replace h : (match (generalizing := false) st with
          | .int n :: .int dp :: .ref d :: .int sp :: .ref z :: r => (match arT z, arT d, Nat.ble (catS r) 8 with
            | some (1, n0), some (1, n1), true => ¬ sp < 0 ∧ ¬ dp < 0 ∧ ¬ n < 0 ∧ sp.toNatClampNeg + n.toNatClampNeg ≤ n0 ∧ dp.toNatClampNeg + n.toNatClampNeg ≤ n1 ∧ nx (pc + 3) L r (sG G d (va_cpy (G z) (G d) sp.toNatClampNeg dp.toNatClampNeg n.toNatClampNeg))
            | _, _, _ => False)
          | _ => False) := h
      split at h
      · rename_i n dp d sp z r
        split at h
        · rename_i n0 n1 hz hd1 hb
          have hb := Nat.le_of_ble_eq_true hb
          obtain ⟨g1, g2, g3, g4, g5, h⟩ := h
          obtain ⟨fs0, hly0⟩ := arT_inv hz
          obtain ⟨fs1, hly1⟩ := arT_inv hd1
          have hq0 := (lay_lt hly0).2.1 (by omega)
          have hq1 := (lay_lt hly1).2.1 (by omega)
          intro E p l e R s m args below meth c A H locs cells slots ls Z F hr hP hD hS hl
          have hR := F.2.2.2.2.2.2
          have hnf : nativeFrameWords "java/lang/System" "arraycopy" 5 = 7 := by decide
          refine va_copyi F.1.1 F.1.2.1 (by rw [F.1.2.2.1, hl.1]) F.1.2.2.2 (F.2.1 _ hlk) (F.2.1 _ (jdk_in (by simp))) (F.2.1 _ (jdk_in (by simp))) (F.2.1 _ (jdk_in (by simp))) F.2.2.2.1 hP hD hS z d 0 0 (by rw [ws_at hq0, cE_int hly0]) (by rw [ws_at hq1, cE_int hly1]) rfl rfl rfl g1 g2 g3 g4 g5 (fun i hi => rfl) (Nat.le_trans hf hR.1) (by show ((cS E r).map fun v => v.category).sum + _ ≤ _; rw [catS_ok, hnf]; simp at hlo; omega) hd (fun H1 locs1 hP hD hS => ?_)
          rw [ws_set hq1 (sG G d (va_cpy (G z) (G d) sp.toNatClampNeg dp.toNatClampNeg n.toNatClampNeg)) (by rw [cE_int hly1, sG_at]) (fun j hj => sG_ne hj)] at hP hD
          exact hn _ _ _ _ h E p l e R s m args below meth c A H1 locs1 cells slots ls Z F hr hP hD hS hl
        · exact h.elim
      · exact h.elim
  · refine s_static ha hn hd hc ?_
    unfold stp at h
    dsimp only at h
    split at h
    · omega
    · omega
    · omega
    · omega
    · exact h
