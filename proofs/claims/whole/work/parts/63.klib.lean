/-! constructors: rows for them -/
section
variable {p : Program} {l : Launch} {e : Env} {R : Room} {s : State} {m : MethodId} {args : Array Value} {below : List Frame} {meth : Method} {c : Code} {H H0 : Heap} {locs : List Loc} {cells slots : Nat} {Q : State → Prop} {cc : ByteArray} {D : va_G} {cl : List vw_C} {ws : va_W} {A : Nat → Prop} {cI cZ : ClassId} {pc : Nat} {ls : Array Slot} {rest : List Value}
theorem va_newI (hexec : p.tables.exec = Jvm.exec) (hb : c.code = cc) (harr : (Cond.arrayClass .int).before args s = true) (hK : va_K D cl (tyc cI cZ) s) (hP : va_P D cl ws H) (hD : va_D A ws) (hS : va_S A H0 H locs) (hA : ∀ q, H0.size ≤ q → A q)
    {n : Int32} {N : Nat} (hn : ¬ n < 0) (hN : n.toNatClampNeg = N) (hbytes : N * 4 ≤ 536870912) (hcells : cells + 1 ≤ R.cells) (hslots : slots + N ≤ R.slots) (hdg : decode cc pc = .ok (.newarray .int, 2))
    (kk : ∀ (q : Nat) (H1 : Heap), va_P D cl (ws ++ [(q, .inl (cI, N, .inl (fun _ => 0)))]) H1 → va_D A (ws ++ [(q, .inl (cI, N, .inl (fun _ => 0)))]) → va_S A H0 H1 locs →
      W p l e R s m args below meth c H1 locs (cells + 1) (slots + N) Q (F0 m (pc + 2) ls (.ref q :: rest))) : W p l e R s m args below meth c H locs cells slots Q (F0 m pc ls (.int n :: rest)) := by
  refine va_newa (atype := .int) (a0 := (N, .inl (fun _ => 0))) (ty := .int) hexec hb harr rfl hK hP hD hS hA (fun _ => rfl) hn hN hbytes hcells hslots hdg (fun q cA H1 hK1 hP1 hD1 hS1 => ?_)
  have h1 := va_nm_int (hK1.2 2 _ rfl).2
  have h2 := va_nm_int (hK.2 0 _ rfl).2
  obtain rfl : cA = cI := Option.some.inj (h1.symm.trans h2)
  exact kk q H1 hP1 hD1 hS1
theorem va_newZ (hexec : p.tables.exec = Jvm.exec) (hb : c.code = cc) (harr : (Cond.arrayClass .boolean).before args s = true) (hK : va_K D cl (tyc cI cZ) s) (hP : va_P D cl ws H) (hD : va_D A ws) (hS : va_S A H0 H locs) (hA : ∀ q, H0.size ≤ q → A q)
    {n : Int32} {N : Nat} (hn : ¬ n < 0) (hN : n.toNatClampNeg = N) (hbytes : N * 1 ≤ 536870912) (hcells : cells + 1 ≤ R.cells) (hslots : slots + N ≤ R.slots) (hdg : decode cc pc = .ok (.newarray .boolean, 2))
    (kk : ∀ (q : Nat) (H1 : Heap), va_P D cl (ws ++ [(q, .inl (cZ, N, .inl (fun _ => 0)))]) H1 → va_D A (ws ++ [(q, .inl (cZ, N, .inl (fun _ => 0)))]) → va_S A H0 H1 locs →
      W p l e R s m args below meth c H1 locs (cells + 1) (slots + N) Q (F0 m (pc + 2) ls (.ref q :: rest))) : W p l e R s m args below meth c H locs cells slots Q (F0 m pc ls (.int n :: rest)) := by
  refine va_newa (atype := .boolean) (a0 := (N, .inl (fun _ => 0))) (ty := .boolean) hexec hb harr rfl hK hP hD hS hA (fun _ => rfl) hn hN hbytes hcells hslots hdg (fun q cA H1 hK1 hP1 hD1 hS1 => ?_)
  have h1 := va_nm_boolean (hK1.2 2 _ rfl).2
  have h2 := va_nm_boolean (hK.2 1 _ rfl).2
  obtain rfl : cA = cZ := Option.some.inj (h1.symm.trans h2)
  exact kk q H1 hP1 hD1 hS1
end
theorem kg {w : Cond} (h : w ∈ gw) : GoodIn gw (w :: gw) := gw_cons h (gw_good h) (fun v hv => ⟨hv, good_of_word (gw_good hv)⟩)
theorem k_bl {av : List Value} {sz : Nat} {D : va_G} {ws : va_W} {tys : List (ClassId × FieldType)} {w2 : va_W} {A : Nat → Prop} : FrameBlind (va_Pc av (fun U => U.heap.size = sz ∧ va_P D classes ws U.heap ∧ va_K D classes tys U ∧ va_D A w2)) := by
  intro a U g mk h
  obtain ⟨h1, h2, h3, h4, h5⟩ := h
  exact ⟨h1, h2, h3, va_K.moved (u := U) (U := U.calling g mk a) (Vm.Alike.refl U.vm) h4, h5⟩
theorem kf_3 : Cond.initialized (mY 0).cls ∈ gw := (meth_ok (a := 0) (by decide)).2.2.1
theorem kf_8 : Cond.static (mY 0) ∈ gw := (meth_ok (a := 0) (by decide)).2.2.2.2.2.2.2 rfl
theorem kf_5 : (mY 0).cls ≠ "java/lang/invoke/MethodHandle" := (meth_ok (a := 0) (by decide)).2.2.2.2.1
theorem kf_6 : (mY 0).cls ≠ "java/lang/invoke/VarHandle" := (meth_ok (a := 0) (by decide)).2.2.2.2.2.1
def nli : List (Nat × MethodName) := [(39, yk_Hours), (32, yk_Pile), (25, yk_Quarry), (46, yk_Surveys), (18, yk_Wall), (53, yk_Asks)]
def nWi (q : Nat × MethodName) : Cond := .methodLinkNest "StoneWorks" q.1 q.2 "StoneWorks"
/-! Arrays.fill of ints -/
set_option maxHeartbeats 8000000 in
theorem k_fill_loop {p : Program} {l : Launch} {e : Env} {R : Room} {s : State} {m : MethodId} {args : Array Value} {below : List Frame} {meth : Method} {c : Code} {cells slots : Nat} {Z : State → Prop} {D : va_G} {cI cZ : ClassId} {h0 N : Nat} {v : Int32} {A : Nat → Prop} (hN : N < 2 ^ 31) (hx : p.tables.exec = Jvm.exec) (hb : c.code = prog_14_method_103_code) (hK : va_K D classes (tyc cI cZ) s)
    (K : ∀ (H : Heap) (locs : List Loc) (ls : Array Slot), va_P D classes [(h0, .inl (cI, N, .inl (fun j => if j < N then v else 0)))] H → va_D A [(h0, .inl (cI, N, .inl (fun j => if j < N then v else 0)))] → va_S A s.heap H locs → W p l e R s m args below meth c H locs cells slots Z (F0 m 20 ls [])) : ∀ (z k : Nat) (q : Int32) (H : Heap) (locs : List Loc) (ls : Array Slot), q = nI k → k + z = N → va_P D classes [(h0, .inl (cI, N, .inl (fun j => if j < k then v else 0)))] H → va_D A [(h0, .inl (cI, N, .inl (fun j => if j < k then v else 0)))] → va_S A s.heap H locs → lv_has ls 4 [(3, .int (nI N)), (2, .int q), (0, .ref h0), (1, .int v)] → W p l e R s m args below meth c H locs cells slots Z (F0 m 5 ls [])
  | 0, k, q, H, locs, ls, hq, hz, hP, hD, hS, hl => by
    subst hq
    have hk : k = N := by omega
    subst hk
    refine lv_iload_n hx hb dq_fill_5 rfl (lv_at hl 1 rfl) ?_
    refine lv_iload_n hx hb dq_fill_6 rfl (lv_at hl 0 rfl) ?_
    refine lv_icmp_ge (tgt := 20) hx hb dq_fill_7 (by decide) (fun _ => ?_) (fun h => absurd (Int32.le_refl _) h)
    exact K H locs ls hP hD hS
  | z + 1, k, q, H, locs, ls, hq, hz, hP, hD, hS, hl => by
    subst hq
    refine lv_iload_n hx hb dq_fill_5 rfl (lv_at hl 1 rfl) ?_
    refine lv_iload_n hx hb dq_fill_6 rfl (lv_at hl 0 rfl) ?_
    refine lv_icmp_ge (tgt := 20) hx hb dq_fill_7 (by decide) (fun h => ?_) (fun h => ?_)
    · exfalso
      rw [nI_leI (by omega) (by omega)] at h
      omega
    · refine lv_aload_n hx hb dq_fill_10 rfl (lv_at hl 2 rfl) ?_
      refine lv_iload_n hx hb dq_fill_11 rfl (lv_at hl 1 rfl) ?_
      refine lv_iload_n hx hb dq_fill_12 rfl (lv_at hl 3 rfl) ?_
      refine va_iast hx hb hK hP hD hS 0 0 rfl rfl (vp_in_nI (by omega) hN) dq_fill_13 (fun H locs hP hD hS => ?_)
      have e : upd (fun j => if j < k then v else 0) (nI k).toNatClampNeg v = (fun j => if j < k + 1 then v else 0) := by
        rw [nI_clamp (by omega)]
        funext j
        unfold upd
        by_cases h1 : j = k
        · rw [if_pos h1, if_pos (by omega)]
        · rw [if_neg h1]
          show (if j < k then v else 0) = _
          by_cases h2 : j < k
          · rw [if_pos h2, if_pos (by omega)]
          · rw [if_neg h2, if_neg (by omega)]
      have hP : va_P D classes [(h0, .inl (cI, N, .inl (upd (fun j => if j < k then v else 0) (nI k).toNatClampNeg v)))] H := hP
      have hD : va_D A [(h0, .inl (cI, N, .inl (upd (fun j => if j < k then v else 0) (nI k).toNatClampNeg v)))] := hD
      rw [e] at hP hD
      refine lv_iinc (v := nI (k + 1)) (lv' := [(2, .int (nI (k + 1))), (3, .int (nI N)), (0, .ref h0), (1, .int v)]) hx hb dq_fill_14 hl (k := 1) rfl (nI_1 k) (by decide) rfl (fun ls hl => ?_)
      refine lv_goto (tgt := 5) hx hb dq_fill_17 (by decide) ?_
      exact k_fill_loop hN hx hb hK K z (k + 1) _ H locs ls rfl (by omega) hP hD hS (lv_sub hl [1, 0, 2, 3] rfl)
set_option maxHeartbeats 8000000 in
set_option maxRecDepth 100000 in
theorem k_fill (l : Launch) (D : va_G) (cI cZ : ClassId) (h0 sz : Nat) (v : Int32) : Met l (mY 0) (cW 0 :: gw) ({ frames := 0, cells := 0, slots := 0, locals := 0 }) (va_Pc [.ref h0, .int v] (fun U => U.heap.size = sz ∧ va_P D classes [(h0, .inl (cI, 8, .inl (fun _ => 0)))] U.heap ∧ va_K D classes (tyc cI cZ) U ∧ va_D (fun _ => True) [(h0, .inl (cI, 8, .inl (fun _ => 0)))])) (va_Qv (fun _ : Unit => True) (fun _ t => va_P D classes [(h0, .inl (cI, 8, .inl (fun j => if j < 8 then v else 0)))] t.heap ∧ va_D (va_A [(h0, .inl (cI, 8, .inl (fun _ => 0)))] sz) [(h0, .inl (cI, 8, .inl (fun j => if j < 8 then v else 0)))]) (va_A [(h0, .inl (cI, 8, .inl (fun _ => 0)))] sz)) 0 0 (va_A [(h0, .inl (cI, 8, .inl (fun _ => 0)))] sz) := by
  refine Met.ofW (cc := prog_14_method_103_code) (maxL := 4) (ret := none) (by decide +kernel) rfl ?_
  intro p e s m args below meth c s₁ B hml hv
  obtain ⟨rfl, hsz, hP, hK, hD0⟩ := hv
  have hx := B.exec
  have hb := B.bytes
  have hr := B.returns
  have hlocks := B.notSynchronized
  subst hsz
  have hD := hD0.self (sz := s.heap.size)
  generalize hAe : va_A [(h0, .inl (cI, 8, .inl (fun _ => 0)))] s.heap.size = A at hD ⊢
  have hS : va_S A s.heap s.heap [] := va_S.rf
  have hP : va_P D classes [(h0, .inl (cI, 8, .inl (fun _ => 0)))] s.heap := hP
  have hl := lv_entry ([.ref h0, .int v]) (n := 4) (Nat.le_of_ble_eq_true rfl)
  rw [lg_entry_eq]
  generalize (lg_sl ([.ref h0, .int v]) ++ List.replicate (4 - (lg_sl ([.ref h0, .int v])).length) Slot.unset).toArray = ls at hl ⊢
  have hl : lv_has ls 4 [(0, .ref h0), (1, .int v)] := hl
  refine lv_iconst (v := 0) hx hb dq_fill_0 (by decide) ?_
  refine lv_istore_n (lv' := [(2, .int 0), (0, .ref h0), (1, .int v)]) hx hb dq_fill_1 rfl hl (by decide) rfl (fun ls hl => ?_)
  refine lv_aload_n hx hb dq_fill_2 rfl (lv_at hl 1 rfl) ?_
  refine va_alen (v := nI 8) hx hb hK hP 0 0 rfl rfl rfl dq_fill_3 ?_
  refine lv_istore_n (lv' := [(3, .int (nI 8)), (2, .int 0), (0, .ref h0), (1, .int v)]) hx hb dq_fill_4 rfl hl (by decide) rfl (fun ls hl => ?_)
  refine k_fill_loop (by decide) hx hb hK (fun H locs ls hP hD hS => ?_) 8 0 _ _ _ _ rfl rfl hP hD hS hl
  exact W.vret hx hb hr (fun t ht hW => ⟨⟨(), rfl, trivial, by rw [ht]; exact hP, hD⟩, hS.F ht⟩) hS.2.2 dq_fill_20
