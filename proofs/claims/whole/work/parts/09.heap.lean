/-! the instructions that look at the heap, return, or call -/
theorem s_return_ {X : Xt} {mi pc nxt a b : Nat} {v : Int32} {w : Int64} {ts : List Nat} {L : Lt} {st : List Value} {G : Gt} {Q : Qt} {nx : Nt} (hn : ∀ pc L st G, nx pc L st G → wp X mi pc L st G Q) (hd : decode (mB mi) pc = .ok (.return_, nxt - pc)) (hc : chk mi (pc, .return_, nxt, a, b, v, w, ts) = true) (h : stp X mi .return_ nxt a b v w ts L st G Q nx) : wp X mi pc L st G Q := by
  have e : nxt = pc + 1 := Nat.eq_of_beq_eq_true hc
  subst e
  have hd := dlen hd
  unfold stp at h
  dsimp only at h
  split at h
  · rename_i hm
    intro E p l e R s m args below meth c A H locs cells slots ls Z F hr hP hD hS hl
    exact hr none G H locs pc ls h (by unfold rok; rw [hm]; trivial) hd hP hD hS
  · exact h.elim
theorem s_ireturn {X : Xt} {mi pc nxt a b : Nat} {v : Int32} {w : Int64} {ts : List Nat} {L : Lt} {st : List Value} {G : Gt} {Q : Qt} {nx : Nt} (hn : ∀ pc L st G, nx pc L st G → wp X mi pc L st G Q) (hd : decode (mB mi) pc = .ok (.ireturn, nxt - pc)) (hc : chk mi (pc, .ireturn, nxt, a, b, v, w, ts) = true) (h : stp X mi .ireturn nxt a b v w ts L st G Q nx) : wp X mi pc L st G Q := by
  have e : nxt = pc + 1 := Nat.eq_of_beq_eq_true hc
  subst e
  have hd := dlen hd
  unfold stp at h
  dsimp only at h
  split at h
  · rename_i v hm
    intro E p l e R s m args below meth c A H locs cells slots ls Z F hr hP hD hS hl
    exact hr (some (.int v)) G H locs pc ls h (by unfold rok; rw [hm]; trivial) hd hP hD hS
  · rename_i v hm
    intro E p l e R s m args below meth c A H locs cells slots ls Z F hr hP hD hS hl
    exact hr (some (.int v)) G H locs pc ls h.2 (by unfold rok; rw [hm]; exact h.1) hd hP hD hS
  · exact h.elim
theorem s_lreturn {X : Xt} {mi pc nxt a b : Nat} {v : Int32} {w : Int64} {ts : List Nat} {L : Lt} {st : List Value} {G : Gt} {Q : Qt} {nx : Nt} (hn : ∀ pc L st G, nx pc L st G → wp X mi pc L st G Q) (hd : decode (mB mi) pc = .ok (.lreturn, nxt - pc)) (hc : chk mi (pc, .lreturn, nxt, a, b, v, w, ts) = true) (h : stp X mi .lreturn nxt a b v w ts L st G Q nx) : wp X mi pc L st G Q := by
  have e : nxt = pc + 1 := Nat.eq_of_beq_eq_true hc
  subst e
  have hd := dlen hd
  unfold stp at h
  dsimp only at h
  split at h
  · rename_i v hm
    intro E p l e R s m args below meth c A H locs cells slots ls Z F hr hP hD hS hl
    exact hr (some (.long v)) G H locs pc ls h (by unfold rok; rw [hm]; trivial) hd hP hD hS
  · exact h.elim
/-- what a program checks of the cells' table -/
def obOK (e : Nat × Nat × List (Option Nat)) : Bool := match e.1 with
  | 0 => (match classes[e.2.1]? with
    | some (C, T, N) => decide (e.2.2.length = N) && (List.range N).all (fun k => decide ((T k).1 = C) && decide ((e.2.1, k) ∈ ordU) && (match e.2.2[k]? with
      | some none => decide ((T k).2.2.2 = false) && decide (parseFieldDescriptor (T k).2.2.1 = some .int)
      | _ => true))
    | none => false)
  | _ => true
theorem lay_ob : lay.all obOK = true := by decide +kernel
def tgOK (q : (Nat × Nat × List (Option Nat)) × Nat) : Bool := if q.2 < 43 then decide (q.1.1 < 3) else decide (q.1.1 = 3)
theorem lay_tg : lay.zipIdx.all tgOK = true := by decide +kernel
theorem lay_lt {q t n : Nat} {fs : List (Option Nat)} (h : lay[q]? = some (t, n, fs)) : q < 46 ∧ (t < 3 → q < 43) ∧ (t = 3 → 43 ≤ q ∧ q ≤ 45) := by
  have hq : q < 46 := (List.getElem?_eq_some_iff.mp h).1
  have hz : lay.zipIdx[q]? = some ((t, n, fs), q) := by
    rw [List.getElem?_zipIdx, h]
    simp
  have h1 := List.all_eq_true.mp lay_tg _ (List.mem_of_getElem? hz)
  unfold tgOK at h1
  by_cases h43 : q < 43
  · rw [if_pos h43] at h1
    have h2 := decide_eq_true_eq.mp h1
    exact ⟨hq, fun _ => h43, fun e => by dsimp only at h2; omega⟩
  · rw [if_neg h43] at h1
    have h2 := decide_eq_true_eq.mp h1
    exact ⟨hq, fun e => by dsimp only at h2; omega, fun _ => by omega⟩
theorem cls_ty {ci : Nat} {C : String} {T : u_T} {N : Nat} (h : classes[ci]? = some (C, T, N)) : ∃ ty0 : Nat → FieldType, (∀ k, k < N → parseFieldDescriptor (T k).2.2.1 = some (ty0 k)) ∧ ∀ a, a < N → ∀ b, b < N → a ≠ b → (T a).2.1 ≠ (T b).2.1 := by
  match ci, h with
  | 0, h => cases h; exact ⟨tyX0, tyX0_ok, nmX0⟩
  | 1, h => cases h; exact ⟨tyX0, tyX0_ok, nmX0⟩
  | 2, h => cases h; exact ⟨tyX2, tyX2_ok, nmX2⟩
  | 3, h => cases h; exact ⟨tyX3, tyX3_ok, nmX3⟩
  | 4, h => cases h; exact ⟨tyX4, tyX4_ok, nmX4⟩
  | 5, h => cases h; exact ⟨tyX5, tyX5_ok, nmX5⟩
  | 6, h => cases h; exact ⟨tyX6, tyX6_ok, nmX6⟩
  | 7, h => cases h; exact ⟨tyX7, tyX7_ok, nmX7⟩
  | 8, h => cases h; exact ⟨tyX8, tyX8_ok, nmX8⟩
  | 9, h => cases h; exact ⟨tyX9, tyX9_ok, nmX9⟩
  | n + 10, h => simp [classes] at h
theorem lay_cls {q ci k : Nat} {fs : List (Option Nat)} {o : Option Nat} (h : lay[q]? = some (0, ci, fs)) (hk : fs[k]? = some o) : ∃ (C : String) (T : u_T) (N : Nat), classes[ci]? = some (C, T, N) ∧ k < N ∧ (∀ w ∈ u_ws C T N, w ∈ gw) ∧ (T k).1 = C ∧ (o = none → (T k).2.2.2 = false ∧ parseFieldDescriptor (T k).2.2.1 = some .int) := by
  have h1 := List.all_eq_true.mp lay_ob _ (List.mem_of_getElem? h)
  unfold obOK at h1
  dsimp only at h1
  cases hc : classes[ci]? with
  | none => rw [hc] at h1; cases h1
  | some z =>
    obtain ⟨C, T, N⟩ := z
    rw [hc] at h1
    dsimp only at h1
    have hN := decide_eq_true_eq.mp (and1 h1)
    have hall := List.all_eq_true.mp (and2 h1)
    have hkN : k < N := by
      rw [← hN]
      exact (List.getElem?_eq_some_iff.mp hk).1
    have h2 := hall k (List.mem_range.mpr hkN)
    refine ⟨C, T, N, rfl, hkN, ?_, decide_eq_true_eq.mp (and1 (and1 h2)), ?_⟩
    · intro w hw
      obtain ⟨j, hj, rfl⟩ := List.mem_map.mp hw
      have h3 := decide_eq_true_eq.mp (and2 (and1 (hall j hj)))
      have h4 : uW (ci, j) = u_lay C T j := by unfold uW; dsimp only; rw [hc]
      rw [← h4]
      exact inA_gw ordU_ok (List.mem_map.mpr ⟨_, h3, rfl⟩)
    · intro ho
      have h3 := and2 h2
      rw [hk, ho] at h3
      dsimp only at h3
      exact ⟨decide_eq_true_eq.mp (and1 h3), decide_eq_true_eq.mp (and2 h3)⟩
theorem cE_obj {E : Ev} {G : Gt} {q ci : Nat} {fs : List (Option Nat)} (h : lay[q]? = some (0, ci, fs)) : cE E G q = .inr (ci, fs.zipIdx.map (fV E G q)) := by
  unfold cE
  rw [h]
  rfl
theorem fls_link {mi i ci k : Nat} {C : String} {T : u_T} {N : Nat} (hm : (mO mi, i, ci, k) ∈ fls) (hc : classes[ci]? = some (C, T, N)) : Cond.fieldLink (cN (mO mi)) i C (T k).2.1 (T k).2.2.1 ∈ gw := by
  have h1 : fW (mO mi, i, ci, k) = Cond.fieldLink (cN (mO mi)) i C (T k).2.1 (T k).2.2.1 := by
    unfold fW
    dsimp only
    rw [hc]
  rw [← h1]
  exact inA_gw fls_ok (List.mem_map.mpr ⟨_, hm, rfl⟩)
theorem s_getfield {X : Xt} {mi pc nxt a b : Nat} {v : Int32} {w : Int64} {ts : List Nat} {L : Lt} {st : List Value} {G : Gt} {Q : Qt} {i : Nat} {nx : Nt} (hn : ∀ pc L st G, nx pc L st G → wp X mi pc L st G Q) (hd : decode (mB mi) pc = .ok (.getfield i, nxt - pc)) (hc : chk mi (pc, .getfield i, nxt, a, b, v, w, ts) = true) (h : stp X mi (.getfield i) nxt a b v w ts L st G Q nx) : wp X mi pc L st G Q := by
  have hm := decide_eq_true_eq.mp (and2 hc)
  have e : nxt = pc + 3 := Nat.eq_of_beq_eq_true (and1 hc)
  subst e
  have hd := dlen hd
  unfold stp at h
  dsimp only at h
  split at h
  · rename_i q r
    split at h
    · rename_i ci fs hly
      have go : ∀ o v, ci = a → fs[b]? = some o → (∀ E : Ev, fV E G q (o, b) = cv E v) → nx (pc + 3) L (v :: r) G → wp X mi pc L (.ref q :: r) G Q := by
        intro o v hca hfs hv h9
        subst hca
        obtain ⟨C, T, N, hcl, hkN, hin, hT1, -⟩ := lay_cls hly hfs
        have hq := (lay_lt hly).2.1 (by omega)
        intro E p l e R s m args below meth c A H locs cells slots ls Z F hr hP hD hS hl
        refine va_get (D := E.1) (ci := ci) (v := cv E v) (C := C) (T := T) (N := N) F.1.1 F.1.2.1 F.2.1 hin F.1.2.2.2 F.2.2.2.1 hP q (by rw [ws_at hq, cE_obj hly]) hcl b hkN (F.2.1 _ (fls_link hm hcl)) (fun x hx => by rw [hT1] at hx; exact hx) (by rw [← hv]; exact fs_get hfs) hd ?_
        exact hn _ _ _ _ h9 E p l e R s m args below meth c A H locs cells slots ls Z F hr hP hD hS hl
      split at h
      · rename_i z hb hfs
        exact go _ (.ref z) (Nat.eq_of_beq_eq_true hb) hfs (fun E => rfl) h
      · rename_i hb hfs
        exact go _ (.int (G q b)) (Nat.eq_of_beq_eq_true hb) hfs (fun E => rfl) h
      · exact h.elim
    · exact h.elim
  · exact h.elim
theorem s_putfield {X : Xt} {mi pc nxt a b : Nat} {v : Int32} {w : Int64} {ts : List Nat} {L : Lt} {st : List Value} {G : Gt} {Q : Qt} {i : Nat} {nx : Nt} (hn : ∀ pc L st G, nx pc L st G → wp X mi pc L st G Q) (hd : decode (mB mi) pc = .ok (.putfield i, nxt - pc)) (hc : chk mi (pc, .putfield i, nxt, a, b, v, w, ts) = true) (h : stp X mi (.putfield i) nxt a b v w ts L st G Q nx) : wp X mi pc L st G Q := by
  have hm := decide_eq_true_eq.mp (and2 hc)
  have e : nxt = pc + 3 := Nat.eq_of_beq_eq_true (and1 hc)
  subst e
  have hd := dlen hd
  unfold stp at h
  dsimp only at h
  split at h
  · rename_i x q r
    split at h
    · rename_i ci fs hly
      split at h
      · rename_i hb hfs
        have hca := Nat.eq_of_beq_eq_true hb
        subst hca
        obtain ⟨C, T, N, hcl, hkN, hin, hT1, hno⟩ := lay_cls hly hfs
        obtain ⟨hfin, hds⟩ := hno rfl
        obtain ⟨ty0, hty, hnm⟩ := cls_ty hcl
        have hq := (lay_lt hly).2.1 (by omega)
        intro E p l e R s m args below meth c A H locs cells slots ls Z F hr hP hD hS hl
        have hw : (ws E G).set q (E.2.1 q, .inr (ci, (fs.zipIdx.map (fV E G q)).set b (.int x))) = ws E (sG G q (upd (G q) b x)) := ws_set hq _ (by rw [cE_obj hly, fs_set hfs]) (fun j hj => sG_ne hj)
        refine va_put (D := E.1) (ci := ci) (v := .int x) (ty := .int) (C := C) (T := T) (N := N) F.1.1 F.1.2.1 F.2.1 hin ty0 hty hnm F.1.2.2.2 F.2.2.2.1 hP hD hS q (fs := fs.zipIdx.map (fV E G q)) (by rw [ws_at hq, cE_obj hly]) hcl b hkN (F.2.1 _ (fls_link hm hcl)) (fun x hx => by rw [hT1] at hx; exact hx) hfin hds rfl rfl (by simp; exact (List.getElem?_eq_some_iff.mp hfs).1) hd (fun H1 locs1 hP hD hS => ?_)
        rw [hw] at hP hD
        exact hn _ _ _ _ h E p l e R s m args below meth c A H1 locs1 cells slots ls Z F hr hP hD hS hl
      · exact h.elim
    · exact h.elim
  · exact h.elim
theorem arT_inv {q t n : Nat} (h : arT q = some (t, n)) : ∃ fs, lay[q]? = some (t, n, fs) := by
  unfold arT at h
  split at h
  · rename_i fs hl
    cases h
    exact ⟨_, hl⟩
  · cases h
theorem cE_int {E : Ev} {G : Gt} {q n : Nat} {fs : List (Option Nat)} (h : lay[q]? = some (1, n, fs)) : cE E G q = .inl (E.2.2.1, n, .inl (G q)) := by
  unfold cE
  rw [h]
  rfl
theorem cE_bool {E : Ev} {G : Gt} {q n : Nat} {fs : List (Option Nat)} (h : lay[q]? = some (2, n, fs)) : cE E G q = .inl (E.2.2.2, n, .inl (G q)) := by
  unfold cE
  rw [h]
  rfl
theorem s_iaload {X : Xt} {mi pc nxt a b : Nat} {v : Int32} {w : Int64} {ts : List Nat} {L : Lt} {st : List Value} {G : Gt} {Q : Qt} {nx : Nt} (hn : ∀ pc L st G, nx pc L st G → wp X mi pc L st G Q) (hd : decode (mB mi) pc = .ok (.iaload, nxt - pc)) (hc : chk mi (pc, .iaload, nxt, a, b, v, w, ts) = true) (h : stp X mi .iaload nxt a b v w ts L st G Q nx) : wp X mi pc L st G Q := by
  have e : nxt = pc + 1 := Nat.eq_of_beq_eq_true hc
  subst e
  have hd := dlen hd
  unfold stp at h
  dsimp only at h
  split at h
  · rename_i i q r
    split at h
    · rename_i n hq
      obtain ⟨hin, h⟩ := h
      obtain ⟨fs, hly⟩ := arT_inv hq
      have hq := (lay_lt hly).2.1 (by omega)
      intro E p l e R s m args below meth c A H locs cells slots ls Z F hr hP hD hS hl
      exact va_iald F.1.1 F.1.2.1 F.2.2.2.1 hP q 0 (by rw [ws_at hq, cE_int hly]) rfl hin hd (hn _ _ _ _ h E p l e R s m args below meth c A H locs cells slots ls Z F hr hP hD hS hl)
    · rename_i n hq
      obtain ⟨hin, h⟩ := h
      obtain ⟨fs, hly⟩ := arT_inv hq
      obtain ⟨g1, g2⟩ := (lay_lt hly).2.2 rfl
      intro E p l e R s m args below meth c A H locs cells slots ls Z F hr hP hD hS hl
      obtain ⟨hX, hbA⟩ := F.2.2.2.2.2.1.1 q g1 g2
      have hbl : E.2.1 q < s.heap.size := by
        obtain ⟨scr, h1, -⟩ := hX
        exact (Array.getElem?_eq_some_iff.mp h1).1
      exact va_sld F.1.1 F.1.2.1 hX hbl hbA hS hin hd (hn _ _ _ _ h E p l e R s m args below meth c A H locs cells slots ls Z F hr hP hD hS hl)
    · exact h.elim
  · exact h.elim
theorem s_baload {X : Xt} {mi pc nxt a b : Nat} {v : Int32} {w : Int64} {ts : List Nat} {L : Lt} {st : List Value} {G : Gt} {Q : Qt} {nx : Nt} (hn : ∀ pc L st G, nx pc L st G → wp X mi pc L st G Q) (hd : decode (mB mi) pc = .ok (.baload, nxt - pc)) (hc : chk mi (pc, .baload, nxt, a, b, v, w, ts) = true) (h : stp X mi .baload nxt a b v w ts L st G Q nx) : wp X mi pc L st G Q := by
  have e : nxt = pc + 1 := Nat.eq_of_beq_eq_true hc
  subst e
  have hd := dlen hd
  unfold stp at h
  dsimp only at h
  split at h
  · rename_i i q r
    split at h
    · rename_i n hq
      obtain ⟨hin, h⟩ := h
      obtain ⟨fs, hly⟩ := arT_inv hq
      have hq := (lay_lt hly).2.1 (by omega)
      intro E p l e R s m args below meth c A H locs cells slots ls Z F hr hP hD hS hl
      exact va_zald F.1.1 F.1.2.1 F.2.2.2.1 hP q 1 (by rw [ws_at hq, cE_bool hly]) rfl hin hd (hn _ _ _ _ h E p l e R s m args below meth c A H locs cells slots ls Z F hr hP hD hS hl)
    · exact h.elim
  · exact h.elim
theorem s_iastore {X : Xt} {mi pc nxt a b : Nat} {v : Int32} {w : Int64} {ts : List Nat} {L : Lt} {st : List Value} {G : Gt} {Q : Qt} {nx : Nt} (hn : ∀ pc L st G, nx pc L st G → wp X mi pc L st G Q) (hd : decode (mB mi) pc = .ok (.iastore, nxt - pc)) (hc : chk mi (pc, .iastore, nxt, a, b, v, w, ts) = true) (h : stp X mi .iastore nxt a b v w ts L st G Q nx) : wp X mi pc L st G Q := by
  have e : nxt = pc + 1 := Nat.eq_of_beq_eq_true hc
  subst e
  have hd := dlen hd
  unfold stp at h
  dsimp only at h
  split at h
  · rename_i x i q r
    split at h
    · rename_i n hq
      obtain ⟨hin, h⟩ := h
      obtain ⟨fs, hly⟩ := arT_inv hq
      have hq := (lay_lt hly).2.1 (by omega)
      intro E p l e R s m args below meth c A H locs cells slots ls Z F hr hP hD hS hl
      refine va_iast F.1.1 F.1.2.1 F.2.2.2.1 hP hD hS q 0 (by rw [ws_at hq, cE_int hly]) rfl hin hd (fun H1 locs1 hP hD hS => ?_)
      rw [ws_set hq (sG G q (upd (G q) i.toNatClampNeg x)) (by rw [cE_int hly, sG_at]) (fun j hj => sG_ne hj)] at hP hD
      exact hn _ _ _ _ h E p l e R s m args below meth c A H1 locs1 cells slots ls Z F hr hP hD hS hl
    · exact h.elim
  · exact h.elim
theorem s_bastore {X : Xt} {mi pc nxt a b : Nat} {v : Int32} {w : Int64} {ts : List Nat} {L : Lt} {st : List Value} {G : Gt} {Q : Qt} {nx : Nt} (hn : ∀ pc L st G, nx pc L st G → wp X mi pc L st G Q) (hd : decode (mB mi) pc = .ok (.bastore, nxt - pc)) (hc : chk mi (pc, .bastore, nxt, a, b, v, w, ts) = true) (h : stp X mi .bastore nxt a b v w ts L st G Q nx) : wp X mi pc L st G Q := by
  have e : nxt = pc + 1 := Nat.eq_of_beq_eq_true hc
  subst e
  have hd := dlen hd
  unfold stp at h
  dsimp only at h
  split at h
  · rename_i x i q r
    split at h
    · rename_i n hq
      obtain ⟨hin, h⟩ := h
      obtain ⟨fs, hly⟩ := arT_inv hq
      have hq := (lay_lt hly).2.1 (by omega)
      intro E p l e R s m args below meth c A H locs cells slots ls Z F hr hP hD hS hl
      refine va_zast F.1.1 F.1.2.1 F.2.2.2.1 hP hD hS q 1 (by rw [ws_at hq, cE_bool hly]) rfl hin hd (fun H1 locs1 hP hD hS => ?_)
      rw [ws_set hq (sG G q (upd (G q) i.toNatClampNeg (vp_nar .boolean x))) (by rw [cE_bool hly, sG_at]) (fun j hj => sG_ne hj)] at hP hD
      exact hn _ _ _ _ h E p l e R s m args below meth c A H1 locs1 cells slots ls Z F hr hP hD hS hl
    · exact h.elim
  · exact h.elim
theorem s_arraylength {X : Xt} {mi pc nxt a b : Nat} {v : Int32} {w : Int64} {ts : List Nat} {L : Lt} {st : List Value} {G : Gt} {Q : Qt} {nx : Nt} (hn : ∀ pc L st G, nx pc L st G → wp X mi pc L st G Q) (hd : decode (mB mi) pc = .ok (.arraylength, nxt - pc)) (hc : chk mi (pc, .arraylength, nxt, a, b, v, w, ts) = true) (h : stp X mi .arraylength nxt a b v w ts L st G Q nx) : wp X mi pc L st G Q := by
  have e : nxt = pc + 1 := Nat.eq_of_beq_eq_true hc
  subst e
  have hd := dlen hd
  unfold stp at h
  dsimp only at h
  split at h
  · rename_i q r
    split at h
    · rename_i n hq
      obtain ⟨fs, hly⟩ := arT_inv hq
      have hq := (lay_lt hly).2.1 (by omega)
      intro E p l e R s m args below meth c A H locs cells slots ls Z F hr hP hD hS hl
      exact va_alen (x := (n, .inl (G q))) F.1.1 F.1.2.1 F.2.2.2.1 hP q 0 (by rw [ws_at hq, cE_int hly]) rfl rfl hd (hn _ _ _ _ h E p l e R s m args below meth c A H locs cells slots ls Z F hr hP hD hS hl)
    · rename_i n hq
      obtain ⟨fs, hly⟩ := arT_inv hq
      have hq := (lay_lt hly).2.1 (by omega)
      intro E p l e R s m args below meth c A H locs cells slots ls Z F hr hP hD hS hl
      exact va_alen (x := (n, .inl (G q))) F.1.1 F.1.2.1 F.2.2.2.1 hP q 1 (by rw [ws_at hq, cE_bool hly]) rfl rfl hd (hn _ _ _ _ h E p l e R s m args below meth c A H locs cells slots ls Z F hr hP hD hS hl)
    · rename_i n hq
      obtain ⟨fs, hly⟩ := arT_inv hq
      obtain ⟨g1, g2⟩ := (lay_lt hly).2.2 rfl
      intro E p l e R s m args below meth c A H locs cells slots ls Z F hr hP hD hS hl
      obtain ⟨hX, hbA⟩ := F.2.2.2.2.2.1.1 q g1 g2
      have hbl : E.2.1 q < s.heap.size := by
        obtain ⟨scr, h1, -⟩ := hX
        exact (Array.getElem?_eq_some_iff.mp h1).1
      exact va_slen F.1.1 F.1.2.1 hX hbl hbA hS hd (hn _ _ _ _ h E p l e R s m args below meth c A H locs cells slots ls Z F hr hP hD hS hl)
    · exact h.elim
  · exact h.elim
theorem gls_e : gls.all (fun q => decide (44 ≤ q.2.2) && decide (q.2.2 ≤ 45)) = true := by decide +kernel
theorem s_getstatic {X : Xt} {mi pc nxt a b : Nat} {v : Int32} {w : Int64} {ts : List Nat} {L : Lt} {st : List Value} {G : Gt} {Q : Qt} {i : Nat} {nx : Nt} (hn : ∀ pc L st G, nx pc L st G → wp X mi pc L st G Q) (hd : decode (mB mi) pc = .ok (.getstatic i, nxt - pc)) (hc : chk mi (pc, .getstatic i, nxt, a, b, v, w, ts) = true) (h : stp X mi (.getstatic i) nxt a b v w ts L st G Q nx) : wp X mi pc L st G Q := by
  have hm := decide_eq_true_eq.mp (and2 hc)
  have e : nxt = pc + 3 := Nat.eq_of_beq_eq_true (and1 hc)
  subst e
  have hd := dlen hd
  have h1 := List.all_eq_true.mp gls_e _ hm
  intro E p l e R s m args below meth c A H locs cells slots ls Z F hr hP hD hS hl
  exact va_gets F.1.1 F.1.2.1 (F.2.2.2.2.2.1.2 a (decide_eq_true_eq.mp (and1 h1)) (decide_eq_true_eq.mp (and2 h1))) hS F.1.2.2.2 (F.2.1 _ (inA_gw gls_ok (List.mem_map.mpr ⟨_, hm, rfl⟩))) (fun x hx => hx) hd (hn _ _ _ _ h E p l e R s m args below meth c A H locs cells slots ls Z F hr hP hD hS hl)
