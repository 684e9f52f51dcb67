/-! each instruction of the abstract machine is the machine's -/
theorem dlen {b : ByteArray} {pc k : Nat} {ins : Instr} (h : decode b pc = .ok (ins, pc + k - pc)) : decode b pc = .ok (ins, k) := by
  rw [Nat.add_sub_cancel_left] at h
  exact h
theorem and1 {x y : Bool} (h : (x && y) = true) : x = true := (Bool.and_eq_true _ _ ▸ h).1
theorem and2 {x y : Bool} (h : (x && y) = true) : y = true := (Bool.and_eq_true _ _ ▸ h).2
theorem blt_ok {a b : Nat} (h : Nat.blt a b = true) : a < b := Nat.lt_of_succ_le (Nat.le_of_ble_eq_true h)
theorem s_iconst {X : Xt} {mi pc nxt a b : Nat} {v : Int32} {w : Int64} {ts : List Nat} {L : Lt} {st : List Value} {G : Gt} {Q : Qt} {n : Int} {nx : Nt} (hn : ∀ pc L st G, nx pc L st G → wp X mi pc L st G Q) (hd : decode (mB mi) pc = .ok ((.iconst n), nxt - pc)) (hc : chk mi (pc, (.iconst n), nxt, a, b, v, w, ts) = true) (h : stp X mi (.iconst n) nxt a b v w ts L st G Q nx) : wp X mi pc L st G Q := by
  have hv := decide_eq_true_eq.mp (and2 hc)
  have e : nxt = pc + 1 := Nat.eq_of_beq_eq_true (and1 hc)
  subst e
  have hd := dlen hd
  intro E p l e R s m args below meth c A H locs cells slots ls Z F hr hP hD hS hl
  exact lv_iconst F.1.1 F.1.2.1 hd hv (hn _ _ _ _ h E p l e R s m args below meth c A H locs cells slots ls Z F hr hP hD hS hl)
theorem s_bipush {X : Xt} {mi pc nxt a b : Nat} {v : Int32} {w : Int64} {ts : List Nat} {L : Lt} {st : List Value} {G : Gt} {Q : Qt} {n : Int} {nx : Nt} (hn : ∀ pc L st G, nx pc L st G → wp X mi pc L st G Q) (hd : decode (mB mi) pc = .ok ((.bipush n), nxt - pc)) (hc : chk mi (pc, (.bipush n), nxt, a, b, v, w, ts) = true) (h : stp X mi (.bipush n) nxt a b v w ts L st G Q nx) : wp X mi pc L st G Q := by
  have hv := decide_eq_true_eq.mp (and2 hc)
  have e : nxt = pc + 2 := Nat.eq_of_beq_eq_true (and1 hc)
  subst e
  have hd := dlen hd
  intro E p l e R s m args below meth c A H locs cells slots ls Z F hr hP hD hS hl
  exact lv_bipush F.1.1 F.1.2.1 hd hv (hn _ _ _ _ h E p l e R s m args below meth c A H locs cells slots ls Z F hr hP hD hS hl)
theorem s_sipush {X : Xt} {mi pc nxt a b : Nat} {v : Int32} {w : Int64} {ts : List Nat} {L : Lt} {st : List Value} {G : Gt} {Q : Qt} {n : Int} {nx : Nt} (hn : ∀ pc L st G, nx pc L st G → wp X mi pc L st G Q) (hd : decode (mB mi) pc = .ok ((.sipush n), nxt - pc)) (hc : chk mi (pc, (.sipush n), nxt, a, b, v, w, ts) = true) (h : stp X mi (.sipush n) nxt a b v w ts L st G Q nx) : wp X mi pc L st G Q := by
  have hv := decide_eq_true_eq.mp (and2 hc)
  have e : nxt = pc + 3 := Nat.eq_of_beq_eq_true (and1 hc)
  subst e
  have hd := dlen hd
  intro E p l e R s m args below meth c A H locs cells slots ls Z F hr hP hD hS hl
  exact lv_sipush F.1.1 F.1.2.1 hd hv (hn _ _ _ _ h E p l e R s m args below meth c A H locs cells slots ls Z F hr hP hD hS hl)
theorem s_lconst {X : Xt} {mi pc nxt a b : Nat} {v : Int32} {w : Int64} {ts : List Nat} {L : Lt} {st : List Value} {G : Gt} {Q : Qt} {n : Fin 2} {nx : Nt} (hn : ∀ pc L st G, nx pc L st G → wp X mi pc L st G Q) (hd : decode (mB mi) pc = .ok ((.lconst n), nxt - pc)) (hc : chk mi (pc, (.lconst n), nxt, a, b, v, w, ts) = true) (h : stp X mi (.lconst n) nxt a b v w ts L st G Q nx) : wp X mi pc L st G Q := by
  have hv := decide_eq_true_eq.mp (and2 hc)
  have e : nxt = pc + 1 := Nat.eq_of_beq_eq_true (and1 hc)
  subst e
  have hd := dlen hd
  intro E p l e R s m args below meth c A H locs cells slots ls Z F hr hP hD hS hl
  exact lv_lconst F.1.1 F.1.2.1 hd hv (hn _ _ _ _ h E p l e R s m args below meth c A H locs cells slots ls Z F hr hP hD hS hl)
theorem s_ldc {X : Xt} {mi pc nxt a b : Nat} {v : Int32} {w : Int64} {ts : List Nat} {L : Lt} {st : List Value} {G : Gt} {Q : Qt} {i : Nat} {nx : Nt} (hn : ∀ pc L st G, nx pc L st G → wp X mi pc L st G Q) (hd : decode (mB mi) pc = .ok ((.ldc i), nxt - pc)) (hc : chk mi (pc, (.ldc i), nxt, a, b, v, w, ts) = true) (h : stp X mi (.ldc i) nxt a b v w ts L st G Q nx) : wp X mi pc L st G Q := by
  have hm := decide_eq_true_eq.mp (and2 hc)
  have e : nxt = pc + 2 := Nat.eq_of_beq_eq_true (and1 hc)
  subst e
  have hd := dlen hd
  intro E p l e R s m args below meth c A H locs cells slots ls Z F hr hP hD hS hl
  exact lv_ldc F.1.1 F.1.2.1 F.1.2.2.2 (F.2.1 _ (inA_gw cIs_ok (List.mem_map.mpr ⟨_, hm, rfl⟩))) hd (hn _ _ _ _ h E p l e R s m args below meth c A H locs cells slots ls Z F hr hP hD hS hl)
theorem s_ldc_w {X : Xt} {mi pc nxt a b : Nat} {v : Int32} {w : Int64} {ts : List Nat} {L : Lt} {st : List Value} {G : Gt} {Q : Qt} {i : Nat} {nx : Nt} (hn : ∀ pc L st G, nx pc L st G → wp X mi pc L st G Q) (hd : decode (mB mi) pc = .ok ((.ldc_w i), nxt - pc)) (hc : chk mi (pc, (.ldc_w i), nxt, a, b, v, w, ts) = true) (h : stp X mi (.ldc_w i) nxt a b v w ts L st G Q nx) : wp X mi pc L st G Q := by
  have hm := decide_eq_true_eq.mp (and2 hc)
  have e : nxt = pc + 3 := Nat.eq_of_beq_eq_true (and1 hc)
  subst e
  have hd := dlen hd
  intro E p l e R s m args below meth c A H locs cells slots ls Z F hr hP hD hS hl
  exact lv_ldcw F.1.1 F.1.2.1 F.1.2.2.2 (F.2.1 _ (inA_gw cIs_ok (List.mem_map.mpr ⟨_, hm, rfl⟩))) hd (hn _ _ _ _ h E p l e R s m args below meth c A H locs cells slots ls Z F hr hP hD hS hl)
theorem s_ldc2_w {X : Xt} {mi pc nxt a b : Nat} {v : Int32} {w : Int64} {ts : List Nat} {L : Lt} {st : List Value} {G : Gt} {Q : Qt} {i : Nat} {nx : Nt} (hn : ∀ pc L st G, nx pc L st G → wp X mi pc L st G Q) (hd : decode (mB mi) pc = .ok ((.ldc2_w i), nxt - pc)) (hc : chk mi (pc, (.ldc2_w i), nxt, a, b, v, w, ts) = true) (h : stp X mi (.ldc2_w i) nxt a b v w ts L st G Q nx) : wp X mi pc L st G Q := by
  have hm := decide_eq_true_eq.mp (and2 hc)
  have e : nxt = pc + 3 := Nat.eq_of_beq_eq_true (and1 hc)
  subst e
  have hd := dlen hd
  intro E p l e R s m args below meth c A H locs cells slots ls Z F hr hP hD hS hl
  exact lv_ldc2 F.1.1 F.1.2.1 F.1.2.2.2 (F.2.1 _ (inA_gw cLs_ok (List.mem_map.mpr ⟨_, hm, rfl⟩))) hd (hn _ _ _ _ h E p l e R s m args below meth c A H locs cells slots ls Z F hr hP hD hS hl)
theorem s_iload_n {X : Xt} {mi pc nxt a b : Nat} {v : Int32} {w : Int64} {ts : List Nat} {L : Lt} {st : List Value} {G : Gt} {Q : Qt} {k : Fin 4} {nx : Nt} (hn : ∀ pc L st G, nx pc L st G → wp X mi pc L st G Q) (hd : decode (mB mi) pc = .ok ((.iload_n k), nxt - pc)) (hc : chk mi (pc, (.iload_n k), nxt, a, b, v, w, ts) = true) (h : stp X mi (.iload_n k) nxt a b v w ts L st G Q nx) : wp X mi pc L st G Q := by
  have e : nxt = pc + 1 := Nat.eq_of_beq_eq_true hc
  subst e
  have hd := dlen hd
  unfold stp at h
  dsimp only at h
  split at h
  · rename_i x hg
    intro E p l e R s m args below meth c A H locs cells slots ls Z F hr hP hD hS hl
    exact lv_iload_n F.1.1 F.1.2.1 hd rfl (lg_has hl hg) (hn _ _ _ _ h E p l e R s m args below meth c A H locs cells slots ls Z F hr hP hD hS hl)
  · exact h.elim
theorem s_iload {X : Xt} {mi pc nxt a b : Nat} {v : Int32} {w : Int64} {ts : List Nat} {L : Lt} {st : List Value} {G : Gt} {Q : Qt} {k : Nat} {nx : Nt} (hn : ∀ pc L st G, nx pc L st G → wp X mi pc L st G Q) (hd : decode (mB mi) pc = .ok ((.iload k), nxt - pc)) (hc : chk mi (pc, (.iload k), nxt, a, b, v, w, ts) = true) (h : stp X mi (.iload k) nxt a b v w ts L st G Q nx) : wp X mi pc L st G Q := by
  have e : nxt = pc + 2 := Nat.eq_of_beq_eq_true hc
  subst e
  have hd := dlen hd
  unfold stp at h
  dsimp only at h
  split at h
  · rename_i x hg
    intro E p l e R s m args below meth c A H locs cells slots ls Z F hr hP hD hS hl
    exact lv_iload F.1.1 F.1.2.1 hd (lg_has hl hg) (hn _ _ _ _ h E p l e R s m args below meth c A H locs cells slots ls Z F hr hP hD hS hl)
  · exact h.elim
theorem s_lload_n {X : Xt} {mi pc nxt a b : Nat} {v : Int32} {w : Int64} {ts : List Nat} {L : Lt} {st : List Value} {G : Gt} {Q : Qt} {k : Fin 4} {nx : Nt} (hn : ∀ pc L st G, nx pc L st G → wp X mi pc L st G Q) (hd : decode (mB mi) pc = .ok ((.lload_n k), nxt - pc)) (hc : chk mi (pc, (.lload_n k), nxt, a, b, v, w, ts) = true) (h : stp X mi (.lload_n k) nxt a b v w ts L st G Q nx) : wp X mi pc L st G Q := by
  have e : nxt = pc + 1 := Nat.eq_of_beq_eq_true hc
  subst e
  have hd := dlen hd
  unfold stp at h
  dsimp only at h
  split at h
  · rename_i x hg
    intro E p l e R s m args below meth c A H locs cells slots ls Z F hr hP hD hS hl
    exact lv_lload_n F.1.1 F.1.2.1 hd rfl (lg_has hl hg) (hn _ _ _ _ h E p l e R s m args below meth c A H locs cells slots ls Z F hr hP hD hS hl)
  · exact h.elim
theorem s_lload {X : Xt} {mi pc nxt a b : Nat} {v : Int32} {w : Int64} {ts : List Nat} {L : Lt} {st : List Value} {G : Gt} {Q : Qt} {k : Nat} {nx : Nt} (hn : ∀ pc L st G, nx pc L st G → wp X mi pc L st G Q) (hd : decode (mB mi) pc = .ok ((.lload k), nxt - pc)) (hc : chk mi (pc, (.lload k), nxt, a, b, v, w, ts) = true) (h : stp X mi (.lload k) nxt a b v w ts L st G Q nx) : wp X mi pc L st G Q := by
  have e : nxt = pc + 2 := Nat.eq_of_beq_eq_true hc
  subst e
  have hd := dlen hd
  unfold stp at h
  dsimp only at h
  split at h
  · rename_i x hg
    intro E p l e R s m args below meth c A H locs cells slots ls Z F hr hP hD hS hl
    exact lv_lload F.1.1 F.1.2.1 hd (lg_has hl hg) (hn _ _ _ _ h E p l e R s m args below meth c A H locs cells slots ls Z F hr hP hD hS hl)
  · exact h.elim
theorem s_aload_n {X : Xt} {mi pc nxt a b : Nat} {v : Int32} {w : Int64} {ts : List Nat} {L : Lt} {st : List Value} {G : Gt} {Q : Qt} {k : Fin 4} {nx : Nt} (hn : ∀ pc L st G, nx pc L st G → wp X mi pc L st G Q) (hd : decode (mB mi) pc = .ok ((.aload_n k), nxt - pc)) (hc : chk mi (pc, (.aload_n k), nxt, a, b, v, w, ts) = true) (h : stp X mi (.aload_n k) nxt a b v w ts L st G Q nx) : wp X mi pc L st G Q := by
  have e : nxt = pc + 1 := Nat.eq_of_beq_eq_true hc
  subst e
  have hd := dlen hd
  unfold stp at h
  dsimp only at h
  split at h
  · rename_i x hg
    intro E p l e R s m args below meth c A H locs cells slots ls Z F hr hP hD hS hl
    exact lv_aload_n F.1.1 F.1.2.1 hd rfl (lg_has hl hg) (hn _ _ _ _ h E p l e R s m args below meth c A H locs cells slots ls Z F hr hP hD hS hl)
  · exact h.elim
theorem s_aload {X : Xt} {mi pc nxt a b : Nat} {v : Int32} {w : Int64} {ts : List Nat} {L : Lt} {st : List Value} {G : Gt} {Q : Qt} {k : Nat} {nx : Nt} (hn : ∀ pc L st G, nx pc L st G → wp X mi pc L st G Q) (hd : decode (mB mi) pc = .ok ((.aload k), nxt - pc)) (hc : chk mi (pc, (.aload k), nxt, a, b, v, w, ts) = true) (h : stp X mi (.aload k) nxt a b v w ts L st G Q nx) : wp X mi pc L st G Q := by
  have e : nxt = pc + 2 := Nat.eq_of_beq_eq_true hc
  subst e
  have hd := dlen hd
  unfold stp at h
  dsimp only at h
  split at h
  · rename_i x hg
    intro E p l e R s m args below meth c A H locs cells slots ls Z F hr hP hD hS hl
    exact lv_aload F.1.1 F.1.2.1 hd (lg_has hl hg) (hn _ _ _ _ h E p l e R s m args below meth c A H locs cells slots ls Z F hr hP hD hS hl)
  · exact h.elim
theorem s_istore_n {X : Xt} {mi pc nxt a b : Nat} {v : Int32} {w : Int64} {ts : List Nat} {L : Lt} {st : List Value} {G : Gt} {Q : Qt} {k : Fin 4} {nx : Nt} (hn : ∀ pc L st G, nx pc L st G → wp X mi pc L st G Q) (hd : decode (mB mi) pc = .ok ((.istore_n k), nxt - pc)) (hc : chk mi (pc, (.istore_n k), nxt, a, b, v, w, ts) = true) (h : stp X mi (.istore_n k) nxt a b v w ts L st G Q nx) : wp X mi pc L st G Q := by
  have hk := blt_ok (and2 hc)
  have e : nxt = pc + 1 := Nat.eq_of_beq_eq_true (and1 hc)
  subst e
  have hd := dlen hd
  unfold stp at h
  dsimp only at h
  split at h
  · rename_i x r
    intro E p l e R s m args below meth c A H locs cells slots ls Z F hr hP hD hS hl
    refine lv_istore_n (nL := mL mi) F.1.1 F.1.2.1 hd rfl hl hk (ls1_cv E L k (.int x)) (fun ls hl => ?_)
    exact (hn _ _ _ _ h E p l e R s m args below meth c A H locs cells slots ls Z F hr hP hD hS hl)
  · exact h.elim
theorem s_istore {X : Xt} {mi pc nxt a b : Nat} {v : Int32} {w : Int64} {ts : List Nat} {L : Lt} {st : List Value} {G : Gt} {Q : Qt} {k : Nat} {nx : Nt} (hn : ∀ pc L st G, nx pc L st G → wp X mi pc L st G Q) (hd : decode (mB mi) pc = .ok ((.istore k), nxt - pc)) (hc : chk mi (pc, (.istore k), nxt, a, b, v, w, ts) = true) (h : stp X mi (.istore k) nxt a b v w ts L st G Q nx) : wp X mi pc L st G Q := by
  have hk := blt_ok (and2 hc)
  have e : nxt = pc + 2 := Nat.eq_of_beq_eq_true (and1 hc)
  subst e
  have hd := dlen hd
  unfold stp at h
  dsimp only at h
  split at h
  · rename_i x r
    intro E p l e R s m args below meth c A H locs cells slots ls Z F hr hP hD hS hl
    refine lv_istore (nL := mL mi) F.1.1 F.1.2.1 hd hl hk (ls1_cv E L k (.int x)) (fun ls hl => ?_)
    exact (hn _ _ _ _ h E p l e R s m args below meth c A H locs cells slots ls Z F hr hP hD hS hl)
  · exact h.elim
theorem s_lstore_n {X : Xt} {mi pc nxt a b : Nat} {v : Int32} {w : Int64} {ts : List Nat} {L : Lt} {st : List Value} {G : Gt} {Q : Qt} {k : Fin 4} {nx : Nt} (hn : ∀ pc L st G, nx pc L st G → wp X mi pc L st G Q) (hd : decode (mB mi) pc = .ok ((.lstore_n k), nxt - pc)) (hc : chk mi (pc, (.lstore_n k), nxt, a, b, v, w, ts) = true) (h : stp X mi (.lstore_n k) nxt a b v w ts L st G Q nx) : wp X mi pc L st G Q := by
  have hk := blt_ok (and2 hc)
  have e : nxt = pc + 1 := Nat.eq_of_beq_eq_true (and1 hc)
  subst e
  have hd := dlen hd
  unfold stp at h
  dsimp only at h
  split at h
  · rename_i x r
    intro E p l e R s m args below meth c A H locs cells slots ls Z F hr hP hD hS hl
    refine lv_lstore_n (nL := mL mi) F.1.1 F.1.2.1 hd rfl hl hk (ls2_cv E L k (.long x)) (fun ls hl => ?_)
    exact (hn _ _ _ _ h E p l e R s m args below meth c A H locs cells slots ls Z F hr hP hD hS hl)
  · exact h.elim
theorem s_lstore {X : Xt} {mi pc nxt a b : Nat} {v : Int32} {w : Int64} {ts : List Nat} {L : Lt} {st : List Value} {G : Gt} {Q : Qt} {k : Nat} {nx : Nt} (hn : ∀ pc L st G, nx pc L st G → wp X mi pc L st G Q) (hd : decode (mB mi) pc = .ok ((.lstore k), nxt - pc)) (hc : chk mi (pc, (.lstore k), nxt, a, b, v, w, ts) = true) (h : stp X mi (.lstore k) nxt a b v w ts L st G Q nx) : wp X mi pc L st G Q := by
  have hk := blt_ok (and2 hc)
  have e : nxt = pc + 2 := Nat.eq_of_beq_eq_true (and1 hc)
  subst e
  have hd := dlen hd
  unfold stp at h
  dsimp only at h
  split at h
  · rename_i x r
    intro E p l e R s m args below meth c A H locs cells slots ls Z F hr hP hD hS hl
    refine lv_lstore (nL := mL mi) F.1.1 F.1.2.1 hd hl hk (ls2_cv E L k (.long x)) (fun ls hl => ?_)
    exact (hn _ _ _ _ h E p l e R s m args below meth c A H locs cells slots ls Z F hr hP hD hS hl)
  · exact h.elim
theorem s_iinc {X : Xt} {mi pc nxt a b : Nat} {v : Int32} {w : Int64} {ts : List Nat} {L : Lt} {st : List Value} {G : Gt} {Q : Qt} {k : Nat} {n : Int} {nx : Nt} (hn : ∀ pc L st G, nx pc L st G → wp X mi pc L st G Q) (hd : decode (mB mi) pc = .ok ((.iinc k n), nxt - pc)) (hc : chk mi (pc, (.iinc k n), nxt, a, b, v, w, ts) = true) (h : stp X mi (.iinc k n) nxt a b v w ts L st G Q nx) : wp X mi pc L st G Q := by
  have hv := decide_eq_true_eq.mp (and2 hc)
  have hk := blt_ok (and2 (and1 hc))
  have hc := and1 hc
  have e : nxt = pc + 3 := Nat.eq_of_beq_eq_true (and1 hc)
  subst e
  have hd := dlen hd
  unfold stp at h
  dsimp only at h
  split at h
  · rename_i x hg
    intro E p l e R s m args below meth c A H locs cells slots ls Z F hr hP hD hS hl
    obtain ⟨j, hj⟩ := List.getElem?_of_mem (List.mem_map.mpr ⟨(k, .int x), lg_mem hg, rfl⟩ : (k, Value.int x) ∈ cL E L)
    refine lv_iinc (nL := mL mi) (k := j) F.1.1 F.1.2.1 hd hl hj (show x + Int32.ofInt n = x + v by rw [hv]) hk (ls1_cv E L k (.int (x + v))) (fun ls hl => ?_)
    exact (hn _ _ _ _ h E p l e R s m args below meth c A H locs cells slots ls Z F hr hP hD hS hl)
  · exact h.elim
theorem s_iadd {X : Xt} {mi pc nxt a b : Nat} {v : Int32} {w : Int64} {ts : List Nat} {L : Lt} {st : List Value} {G : Gt} {Q : Qt} {nx : Nt} (hn : ∀ pc L st G, nx pc L st G → wp X mi pc L st G Q) (hd : decode (mB mi) pc = .ok (.iadd, nxt - pc)) (hc : chk mi (pc, .iadd, nxt, a, b, v, w, ts) = true) (h : stp X mi .iadd nxt a b v w ts L st G Q nx) : wp X mi pc L st G Q := by
  have e : nxt = pc + 1 := Nat.eq_of_beq_eq_true hc
  subst e
  have hd := dlen hd
  unfold stp at h
  dsimp only at h
  split at h
  · rename_i y x r
    intro E p l e R s m args below meth c A H locs cells slots ls Z F hr hP hD hS hl
    exact lv_iadd F.1.1 F.1.2.1 hd (hn _ _ _ _ h E p l e R s m args below meth c A H locs cells slots ls Z F hr hP hD hS hl)
  · exact h.elim
theorem s_isub {X : Xt} {mi pc nxt a b : Nat} {v : Int32} {w : Int64} {ts : List Nat} {L : Lt} {st : List Value} {G : Gt} {Q : Qt} {nx : Nt} (hn : ∀ pc L st G, nx pc L st G → wp X mi pc L st G Q) (hd : decode (mB mi) pc = .ok (.isub, nxt - pc)) (hc : chk mi (pc, .isub, nxt, a, b, v, w, ts) = true) (h : stp X mi .isub nxt a b v w ts L st G Q nx) : wp X mi pc L st G Q := by
  have e : nxt = pc + 1 := Nat.eq_of_beq_eq_true hc
  subst e
  have hd := dlen hd
  unfold stp at h
  dsimp only at h
  split at h
  · rename_i y x r
    intro E p l e R s m args below meth c A H locs cells slots ls Z F hr hP hD hS hl
    exact lv_isub F.1.1 F.1.2.1 hd (hn _ _ _ _ h E p l e R s m args below meth c A H locs cells slots ls Z F hr hP hD hS hl)
  · exact h.elim
theorem s_imul {X : Xt} {mi pc nxt a b : Nat} {v : Int32} {w : Int64} {ts : List Nat} {L : Lt} {st : List Value} {G : Gt} {Q : Qt} {nx : Nt} (hn : ∀ pc L st G, nx pc L st G → wp X mi pc L st G Q) (hd : decode (mB mi) pc = .ok (.imul, nxt - pc)) (hc : chk mi (pc, .imul, nxt, a, b, v, w, ts) = true) (h : stp X mi .imul nxt a b v w ts L st G Q nx) : wp X mi pc L st G Q := by
  have e : nxt = pc + 1 := Nat.eq_of_beq_eq_true hc
  subst e
  have hd := dlen hd
  unfold stp at h
  dsimp only at h
  split at h
  · rename_i y x r
    intro E p l e R s m args below meth c A H locs cells slots ls Z F hr hP hD hS hl
    exact lv_imul F.1.1 F.1.2.1 hd (hn _ _ _ _ h E p l e R s m args below meth c A H locs cells slots ls Z F hr hP hD hS hl)
  · exact h.elim
theorem s_iand {X : Xt} {mi pc nxt a b : Nat} {v : Int32} {w : Int64} {ts : List Nat} {L : Lt} {st : List Value} {G : Gt} {Q : Qt} {nx : Nt} (hn : ∀ pc L st G, nx pc L st G → wp X mi pc L st G Q) (hd : decode (mB mi) pc = .ok (.iand, nxt - pc)) (hc : chk mi (pc, .iand, nxt, a, b, v, w, ts) = true) (h : stp X mi .iand nxt a b v w ts L st G Q nx) : wp X mi pc L st G Q := by
  have e : nxt = pc + 1 := Nat.eq_of_beq_eq_true hc
  subst e
  have hd := dlen hd
  unfold stp at h
  dsimp only at h
  split at h
  · rename_i y x r
    intro E p l e R s m args below meth c A H locs cells slots ls Z F hr hP hD hS hl
    exact lv_iand F.1.1 F.1.2.1 hd (hn _ _ _ _ h E p l e R s m args below meth c A H locs cells slots ls Z F hr hP hD hS hl)
  · exact h.elim
theorem s_ior {X : Xt} {mi pc nxt a b : Nat} {v : Int32} {w : Int64} {ts : List Nat} {L : Lt} {st : List Value} {G : Gt} {Q : Qt} {nx : Nt} (hn : ∀ pc L st G, nx pc L st G → wp X mi pc L st G Q) (hd : decode (mB mi) pc = .ok (.ior, nxt - pc)) (hc : chk mi (pc, .ior, nxt, a, b, v, w, ts) = true) (h : stp X mi .ior nxt a b v w ts L st G Q nx) : wp X mi pc L st G Q := by
  have e : nxt = pc + 1 := Nat.eq_of_beq_eq_true hc
  subst e
  have hd := dlen hd
  unfold stp at h
  dsimp only at h
  split at h
  · rename_i y x r
    intro E p l e R s m args below meth c A H locs cells slots ls Z F hr hP hD hS hl
    exact lv_ior F.1.1 F.1.2.1 hd (hn _ _ _ _ h E p l e R s m args below meth c A H locs cells slots ls Z F hr hP hD hS hl)
  · exact h.elim
theorem s_ixor {X : Xt} {mi pc nxt a b : Nat} {v : Int32} {w : Int64} {ts : List Nat} {L : Lt} {st : List Value} {G : Gt} {Q : Qt} {nx : Nt} (hn : ∀ pc L st G, nx pc L st G → wp X mi pc L st G Q) (hd : decode (mB mi) pc = .ok (.ixor, nxt - pc)) (hc : chk mi (pc, .ixor, nxt, a, b, v, w, ts) = true) (h : stp X mi .ixor nxt a b v w ts L st G Q nx) : wp X mi pc L st G Q := by
  have e : nxt = pc + 1 := Nat.eq_of_beq_eq_true hc
  subst e
  have hd := dlen hd
  unfold stp at h
  dsimp only at h
  split at h
  · rename_i y x r
    intro E p l e R s m args below meth c A H locs cells slots ls Z F hr hP hD hS hl
    exact lv_ixor F.1.1 F.1.2.1 hd (hn _ _ _ _ h E p l e R s m args below meth c A H locs cells slots ls Z F hr hP hD hS hl)
  · exact h.elim
theorem s_ishl {X : Xt} {mi pc nxt a b : Nat} {v : Int32} {w : Int64} {ts : List Nat} {L : Lt} {st : List Value} {G : Gt} {Q : Qt} {nx : Nt} (hn : ∀ pc L st G, nx pc L st G → wp X mi pc L st G Q) (hd : decode (mB mi) pc = .ok (.ishl, nxt - pc)) (hc : chk mi (pc, .ishl, nxt, a, b, v, w, ts) = true) (h : stp X mi .ishl nxt a b v w ts L st G Q nx) : wp X mi pc L st G Q := by
  have e : nxt = pc + 1 := Nat.eq_of_beq_eq_true hc
  subst e
  have hd := dlen hd
  unfold stp at h
  dsimp only at h
  split at h
  · rename_i y x r
    intro E p l e R s m args below meth c A H locs cells slots ls Z F hr hP hD hS hl
    exact lv_ishl F.1.1 F.1.2.1 hd (hn _ _ _ _ h E p l e R s m args below meth c A H locs cells slots ls Z F hr hP hD hS hl)
  · exact h.elim
theorem s_ishr {X : Xt} {mi pc nxt a b : Nat} {v : Int32} {w : Int64} {ts : List Nat} {L : Lt} {st : List Value} {G : Gt} {Q : Qt} {nx : Nt} (hn : ∀ pc L st G, nx pc L st G → wp X mi pc L st G Q) (hd : decode (mB mi) pc = .ok (.ishr, nxt - pc)) (hc : chk mi (pc, .ishr, nxt, a, b, v, w, ts) = true) (h : stp X mi .ishr nxt a b v w ts L st G Q nx) : wp X mi pc L st G Q := by
  have e : nxt = pc + 1 := Nat.eq_of_beq_eq_true hc
  subst e
  have hd := dlen hd
  unfold stp at h
  dsimp only at h
  split at h
  · rename_i y x r
    intro E p l e R s m args below meth c A H locs cells slots ls Z F hr hP hD hS hl
    exact lv_ishr F.1.1 F.1.2.1 hd (hn _ _ _ _ h E p l e R s m args below meth c A H locs cells slots ls Z F hr hP hD hS hl)
  · exact h.elim
theorem s_idiv {X : Xt} {mi pc nxt a b : Nat} {v : Int32} {w : Int64} {ts : List Nat} {L : Lt} {st : List Value} {G : Gt} {Q : Qt} {nx : Nt} (hn : ∀ pc L st G, nx pc L st G → wp X mi pc L st G Q) (hd : decode (mB mi) pc = .ok (.idiv, nxt - pc)) (hc : chk mi (pc, .idiv, nxt, a, b, v, w, ts) = true) (h : stp X mi .idiv nxt a b v w ts L st G Q nx) : wp X mi pc L st G Q := by
  have e : nxt = pc + 1 := Nat.eq_of_beq_eq_true hc
  subst e
  have hd := dlen hd
  unfold stp at h
  dsimp only at h
  split at h
  · rename_i y x r
    obtain ⟨hz, h⟩ := h
    intro E p l e R s m args below meth c A H locs cells slots ls Z F hr hP hD hS hl
    exact lv_idiv F.1.1 F.1.2.1 hd hz (hn _ _ _ _ h E p l e R s m args below meth c A H locs cells slots ls Z F hr hP hD hS hl)
  · exact h.elim
theorem s_irem {X : Xt} {mi pc nxt a b : Nat} {v : Int32} {w : Int64} {ts : List Nat} {L : Lt} {st : List Value} {G : Gt} {Q : Qt} {nx : Nt} (hn : ∀ pc L st G, nx pc L st G → wp X mi pc L st G Q) (hd : decode (mB mi) pc = .ok (.irem, nxt - pc)) (hc : chk mi (pc, .irem, nxt, a, b, v, w, ts) = true) (h : stp X mi .irem nxt a b v w ts L st G Q nx) : wp X mi pc L st G Q := by
  have e : nxt = pc + 1 := Nat.eq_of_beq_eq_true hc
  subst e
  have hd := dlen hd
  unfold stp at h
  dsimp only at h
  split at h
  · rename_i y x r
    obtain ⟨hz, h⟩ := h
    intro E p l e R s m args below meth c A H locs cells slots ls Z F hr hP hD hS hl
    exact lv_irem F.1.1 F.1.2.1 hd hz (hn _ _ _ _ h E p l e R s m args below meth c A H locs cells slots ls Z F hr hP hD hS hl)
  · exact h.elim
theorem s_ineg {X : Xt} {mi pc nxt a b : Nat} {v : Int32} {w : Int64} {ts : List Nat} {L : Lt} {st : List Value} {G : Gt} {Q : Qt} {nx : Nt} (hn : ∀ pc L st G, nx pc L st G → wp X mi pc L st G Q) (hd : decode (mB mi) pc = .ok (.ineg, nxt - pc)) (hc : chk mi (pc, .ineg, nxt, a, b, v, w, ts) = true) (h : stp X mi .ineg nxt a b v w ts L st G Q nx) : wp X mi pc L st G Q := by
  have e : nxt = pc + 1 := Nat.eq_of_beq_eq_true hc
  subst e
  have hd := dlen hd
  unfold stp at h
  dsimp only at h
  split at h
  · rename_i x r
    intro E p l e R s m args below meth c A H locs cells slots ls Z F hr hP hD hS hl
    exact lv_ineg F.1.1 F.1.2.1 hd (hn _ _ _ _ h E p l e R s m args below meth c A H locs cells slots ls Z F hr hP hD hS hl)
  · exact h.elim
theorem s_i2l {X : Xt} {mi pc nxt a b : Nat} {v : Int32} {w : Int64} {ts : List Nat} {L : Lt} {st : List Value} {G : Gt} {Q : Qt} {nx : Nt} (hn : ∀ pc L st G, nx pc L st G → wp X mi pc L st G Q) (hd : decode (mB mi) pc = .ok (.i2l, nxt - pc)) (hc : chk mi (pc, .i2l, nxt, a, b, v, w, ts) = true) (h : stp X mi .i2l nxt a b v w ts L st G Q nx) : wp X mi pc L st G Q := by
  have e : nxt = pc + 1 := Nat.eq_of_beq_eq_true hc
  subst e
  have hd := dlen hd
  unfold stp at h
  dsimp only at h
  split at h
  · rename_i x r
    intro E p l e R s m args below meth c A H locs cells slots ls Z F hr hP hD hS hl
    exact lv_i2l F.1.1 F.1.2.1 hd rfl (hn _ _ _ _ h E p l e R s m args below meth c A H locs cells slots ls Z F hr hP hD hS hl)
  · exact h.elim
theorem s_i2b {X : Xt} {mi pc nxt a b : Nat} {v : Int32} {w : Int64} {ts : List Nat} {L : Lt} {st : List Value} {G : Gt} {Q : Qt} {nx : Nt} (hn : ∀ pc L st G, nx pc L st G → wp X mi pc L st G Q) (hd : decode (mB mi) pc = .ok (.i2b, nxt - pc)) (hc : chk mi (pc, .i2b, nxt, a, b, v, w, ts) = true) (h : stp X mi .i2b nxt a b v w ts L st G Q nx) : wp X mi pc L st G Q := by
  have e : nxt = pc + 1 := Nat.eq_of_beq_eq_true hc
  subst e
  have hd := dlen hd
  unfold stp at h
  dsimp only at h
  split at h
  · rename_i x r
    intro E p l e R s m args below meth c A H locs cells slots ls Z F hr hP hD hS hl
    exact lv_i2b F.1.1 F.1.2.1 hd rfl (hn _ _ _ _ h E p l e R s m args below meth c A H locs cells slots ls Z F hr hP hD hS hl)
  · exact h.elim
theorem s_i2s {X : Xt} {mi pc nxt a b : Nat} {v : Int32} {w : Int64} {ts : List Nat} {L : Lt} {st : List Value} {G : Gt} {Q : Qt} {nx : Nt} (hn : ∀ pc L st G, nx pc L st G → wp X mi pc L st G Q) (hd : decode (mB mi) pc = .ok (.i2s, nxt - pc)) (hc : chk mi (pc, .i2s, nxt, a, b, v, w, ts) = true) (h : stp X mi .i2s nxt a b v w ts L st G Q nx) : wp X mi pc L st G Q := by
  have e : nxt = pc + 1 := Nat.eq_of_beq_eq_true hc
  subst e
  have hd := dlen hd
  unfold stp at h
  dsimp only at h
  split at h
  · rename_i x r
    intro E p l e R s m args below meth c A H locs cells slots ls Z F hr hP hD hS hl
    exact lv_i2s F.1.1 F.1.2.1 hd rfl (hn _ _ _ _ h E p l e R s m args below meth c A H locs cells slots ls Z F hr hP hD hS hl)
  · exact h.elim
theorem s_ladd {X : Xt} {mi pc nxt a b : Nat} {v : Int32} {w : Int64} {ts : List Nat} {L : Lt} {st : List Value} {G : Gt} {Q : Qt} {nx : Nt} (hn : ∀ pc L st G, nx pc L st G → wp X mi pc L st G Q) (hd : decode (mB mi) pc = .ok (.ladd, nxt - pc)) (hc : chk mi (pc, .ladd, nxt, a, b, v, w, ts) = true) (h : stp X mi .ladd nxt a b v w ts L st G Q nx) : wp X mi pc L st G Q := by
  have e : nxt = pc + 1 := Nat.eq_of_beq_eq_true hc
  subst e
  have hd := dlen hd
  unfold stp at h
  dsimp only at h
  split at h
  · rename_i y x r
    intro E p l e R s m args below meth c A H locs cells slots ls Z F hr hP hD hS hl
    exact lv_ladd F.1.1 F.1.2.1 hd (hn _ _ _ _ h E p l e R s m args below meth c A H locs cells slots ls Z F hr hP hD hS hl)
  · exact h.elim
theorem s_lsub {X : Xt} {mi pc nxt a b : Nat} {v : Int32} {w : Int64} {ts : List Nat} {L : Lt} {st : List Value} {G : Gt} {Q : Qt} {nx : Nt} (hn : ∀ pc L st G, nx pc L st G → wp X mi pc L st G Q) (hd : decode (mB mi) pc = .ok (.lsub, nxt - pc)) (hc : chk mi (pc, .lsub, nxt, a, b, v, w, ts) = true) (h : stp X mi .lsub nxt a b v w ts L st G Q nx) : wp X mi pc L st G Q := by
  have e : nxt = pc + 1 := Nat.eq_of_beq_eq_true hc
  subst e
  have hd := dlen hd
  unfold stp at h
  dsimp only at h
  split at h
  · rename_i y x r
    intro E p l e R s m args below meth c A H locs cells slots ls Z F hr hP hD hS hl
    exact lv_lsub F.1.1 F.1.2.1 hd (hn _ _ _ _ h E p l e R s m args below meth c A H locs cells slots ls Z F hr hP hD hS hl)
  · exact h.elim
theorem s_lcmp {X : Xt} {mi pc nxt a b : Nat} {v : Int32} {w : Int64} {ts : List Nat} {L : Lt} {st : List Value} {G : Gt} {Q : Qt} {nx : Nt} (hn : ∀ pc L st G, nx pc L st G → wp X mi pc L st G Q) (hd : decode (mB mi) pc = .ok (.lcmp, nxt - pc)) (hc : chk mi (pc, .lcmp, nxt, a, b, v, w, ts) = true) (h : stp X mi .lcmp nxt a b v w ts L st G Q nx) : wp X mi pc L st G Q := by
  have e : nxt = pc + 1 := Nat.eq_of_beq_eq_true hc
  subst e
  have hd := dlen hd
  unfold stp at h
  dsimp only at h
  split at h
  · rename_i y x r
    intro E p l e R s m args below meth c A H locs cells slots ls Z F hr hP hD hS hl
    exact W.lcmp F.1.1 F.1.2.1 hd (hn _ _ _ _ h E p l e R s m args below meth c A H locs cells slots ls Z F hr hP hD hS hl)
  · exact h.elim
theorem s_dup {X : Xt} {mi pc nxt a b : Nat} {v : Int32} {w : Int64} {ts : List Nat} {L : Lt} {st : List Value} {G : Gt} {Q : Qt} {nx : Nt} (hn : ∀ pc L st G, nx pc L st G → wp X mi pc L st G Q) (hd : decode (mB mi) pc = .ok (.dup, nxt - pc)) (hc : chk mi (pc, .dup, nxt, a, b, v, w, ts) = true) (h : stp X mi .dup nxt a b v w ts L st G Q nx) : wp X mi pc L st G Q := by
  have e : nxt = pc + 1 := Nat.eq_of_beq_eq_true hc
  subst e
  have hd := dlen hd
  unfold stp at h
  dsimp only at h
  split at h
  · rename_i v r
    split at h
    · rename_i hv
      intro E p l e R s m args below meth c A H locs cells slots ls Z F hr hP hD hS hl
      exact lv_dup F.1.1 F.1.2.1 hd (by rw [cv_cat]; exact hv) (hn _ _ _ _ h E p l e R s m args below meth c A H locs cells slots ls Z F hr hP hD hS hl)
    · exact h.elim
  · exact h.elim
theorem s_pop {X : Xt} {mi pc nxt a b : Nat} {v : Int32} {w : Int64} {ts : List Nat} {L : Lt} {st : List Value} {G : Gt} {Q : Qt} {nx : Nt} (hn : ∀ pc L st G, nx pc L st G → wp X mi pc L st G Q) (hd : decode (mB mi) pc = .ok (.pop, nxt - pc)) (hc : chk mi (pc, .pop, nxt, a, b, v, w, ts) = true) (h : stp X mi .pop nxt a b v w ts L st G Q nx) : wp X mi pc L st G Q := by
  have e : nxt = pc + 1 := Nat.eq_of_beq_eq_true hc
  subst e
  have hd := dlen hd
  unfold stp at h
  dsimp only at h
  split at h
  · rename_i v r
    split at h
    · rename_i hv
      intro E p l e R s m args below meth c A H locs cells slots ls Z F hr hP hD hS hl
      exact lv_pop F.1.1 F.1.2.1 hd (by rw [cv_cat]; exact hv) (hn _ _ _ _ h E p l e R s m args below meth c A H locs cells slots ls Z F hr hP hD hS hl)
    · exact h.elim
  · exact h.elim
theorem s_dup2 {X : Xt} {mi pc nxt a b : Nat} {v : Int32} {w : Int64} {ts : List Nat} {L : Lt} {st : List Value} {G : Gt} {Q : Qt} {nx : Nt} (hn : ∀ pc L st G, nx pc L st G → wp X mi pc L st G Q) (hd : decode (mB mi) pc = .ok (.dup2, nxt - pc)) (hc : chk mi (pc, .dup2, nxt, a, b, v, w, ts) = true) (h : stp X mi .dup2 nxt a b v w ts L st G Q nx) : wp X mi pc L st G Q := by
  have e : nxt = pc + 1 := Nat.eq_of_beq_eq_true hc
  subst e
  have hd := dlen hd
  unfold stp at h
  dsimp only at h
  split at h
  · rename_i v w r
    split at h
    · rename_i hv hw
      intro E p l e R s m args below meth c A H locs cells slots ls Z F hr hP hD hS hl
      exact lv_dup2_11 F.1.1 F.1.2.1 hd (by rw [cv_cat]; exact hv) (by rw [cv_cat]; exact hw) (hn _ _ _ _ h E p l e R s m args below meth c A H locs cells slots ls Z F hr hP hD hS hl)
    · exact h.elim
  · exact h.elim
theorem s_goto {X : Xt} {mi pc nxt a b : Nat} {v : Int32} {w : Int64} {ts : List Nat} {L : Lt} {st : List Value} {G : Gt} {Q : Qt} {off : Int} {nx : Nt} (hn : ∀ pc L st G, nx pc L st G → wp X mi pc L st G Q) (hd : decode (mB mi) pc = .ok ((.goto off), nxt - pc)) (hc : chk mi (pc, (.goto off), nxt, a, b, v, w, ts) = true) (h : stp X mi (.goto off) nxt a b v w ts L st G Q nx) : wp X mi pc L st G Q := by
  have ht := decide_eq_true_eq.mp (and2 hc)
  have e : nxt = pc + 3 := Nat.eq_of_beq_eq_true (and1 hc)
  subst e
  have hd := dlen hd
  intro E p l e R s m args below meth c A H locs cells slots ls Z F hr hP hD hS hl
  exact lv_goto F.1.1 F.1.2.1 hd ht (hn _ _ _ _ h E p l e R s m args below meth c A H locs cells slots ls Z F hr hP hD hS hl)
theorem s_ifCond_eq {X : Xt} {mi pc nxt a b : Nat} {v : Int32} {w : Int64} {ts : List Nat} {L : Lt} {st : List Value} {G : Gt} {Q : Qt} {off : Int} {nx : Nt} (hn : ∀ pc L st G, nx pc L st G → wp X mi pc L st G Q) (hd : decode (mB mi) pc = .ok ((.ifCond .eq off), nxt - pc)) (hc : chk mi (pc, (.ifCond .eq off), nxt, a, b, v, w, ts) = true) (h : stp X mi (.ifCond .eq off) nxt a b v w ts L st G Q nx) : wp X mi pc L st G Q := by
  have ht := decide_eq_true_eq.mp (and2 hc)
  have e : nxt = pc + 3 := Nat.eq_of_beq_eq_true (and1 hc)
  subst e
  have hd := dlen hd
  unfold stp at h
  dsimp only at h
  split at h
  · rename_i x r
    intro E p l e R s m args below meth c A H locs cells slots ls Z F hr hP hD hS hl
    exact lv_if_eq F.1.1 F.1.2.1 hd ht (fun g => hn _ _ _ _ (h.1 g) E p l e R s m args below meth c A H locs cells slots ls Z F hr hP hD hS hl) (fun g => hn _ _ _ _ (h.2 g) E p l e R s m args below meth c A H locs cells slots ls Z F hr hP hD hS hl)
  · exact h.elim
theorem s_ifCond_ne {X : Xt} {mi pc nxt a b : Nat} {v : Int32} {w : Int64} {ts : List Nat} {L : Lt} {st : List Value} {G : Gt} {Q : Qt} {off : Int} {nx : Nt} (hn : ∀ pc L st G, nx pc L st G → wp X mi pc L st G Q) (hd : decode (mB mi) pc = .ok ((.ifCond .ne off), nxt - pc)) (hc : chk mi (pc, (.ifCond .ne off), nxt, a, b, v, w, ts) = true) (h : stp X mi (.ifCond .ne off) nxt a b v w ts L st G Q nx) : wp X mi pc L st G Q := by
  have ht := decide_eq_true_eq.mp (and2 hc)
  have e : nxt = pc + 3 := Nat.eq_of_beq_eq_true (and1 hc)
  subst e
  have hd := dlen hd
  unfold stp at h
  dsimp only at h
  split at h
  · rename_i x r
    intro E p l e R s m args below meth c A H locs cells slots ls Z F hr hP hD hS hl
    exact lv_if_ne F.1.1 F.1.2.1 hd ht (fun g => hn _ _ _ _ (h.1 g) E p l e R s m args below meth c A H locs cells slots ls Z F hr hP hD hS hl) (fun g => hn _ _ _ _ (h.2 g) E p l e R s m args below meth c A H locs cells slots ls Z F hr hP hD hS hl)
  · exact h.elim
theorem s_ifCond_lt {X : Xt} {mi pc nxt a b : Nat} {v : Int32} {w : Int64} {ts : List Nat} {L : Lt} {st : List Value} {G : Gt} {Q : Qt} {off : Int} {nx : Nt} (hn : ∀ pc L st G, nx pc L st G → wp X mi pc L st G Q) (hd : decode (mB mi) pc = .ok ((.ifCond .lt off), nxt - pc)) (hc : chk mi (pc, (.ifCond .lt off), nxt, a, b, v, w, ts) = true) (h : stp X mi (.ifCond .lt off) nxt a b v w ts L st G Q nx) : wp X mi pc L st G Q := by
  have ht := decide_eq_true_eq.mp (and2 hc)
  have e : nxt = pc + 3 := Nat.eq_of_beq_eq_true (and1 hc)
  subst e
  have hd := dlen hd
  unfold stp at h
  dsimp only at h
  split at h
  · rename_i x r
    intro E p l e R s m args below meth c A H locs cells slots ls Z F hr hP hD hS hl
    exact lv_if_lt F.1.1 F.1.2.1 hd ht (fun g => hn _ _ _ _ (h.1 g) E p l e R s m args below meth c A H locs cells slots ls Z F hr hP hD hS hl) (fun g => hn _ _ _ _ (h.2 g) E p l e R s m args below meth c A H locs cells slots ls Z F hr hP hD hS hl)
  · exact h.elim
theorem s_ifCond_ge {X : Xt} {mi pc nxt a b : Nat} {v : Int32} {w : Int64} {ts : List Nat} {L : Lt} {st : List Value} {G : Gt} {Q : Qt} {off : Int} {nx : Nt} (hn : ∀ pc L st G, nx pc L st G → wp X mi pc L st G Q) (hd : decode (mB mi) pc = .ok ((.ifCond .ge off), nxt - pc)) (hc : chk mi (pc, (.ifCond .ge off), nxt, a, b, v, w, ts) = true) (h : stp X mi (.ifCond .ge off) nxt a b v w ts L st G Q nx) : wp X mi pc L st G Q := by
  have ht := decide_eq_true_eq.mp (and2 hc)
  have e : nxt = pc + 3 := Nat.eq_of_beq_eq_true (and1 hc)
  subst e
  have hd := dlen hd
  unfold stp at h
  dsimp only at h
  split at h
  · rename_i x r
    intro E p l e R s m args below meth c A H locs cells slots ls Z F hr hP hD hS hl
    exact lv_if_ge F.1.1 F.1.2.1 hd ht (fun g => hn _ _ _ _ (h.1 g) E p l e R s m args below meth c A H locs cells slots ls Z F hr hP hD hS hl) (fun g => hn _ _ _ _ (h.2 g) E p l e R s m args below meth c A H locs cells slots ls Z F hr hP hD hS hl)
  · exact h.elim
theorem s_ifCond_gt {X : Xt} {mi pc nxt a b : Nat} {v : Int32} {w : Int64} {ts : List Nat} {L : Lt} {st : List Value} {G : Gt} {Q : Qt} {off : Int} {nx : Nt} (hn : ∀ pc L st G, nx pc L st G → wp X mi pc L st G Q) (hd : decode (mB mi) pc = .ok ((.ifCond .gt off), nxt - pc)) (hc : chk mi (pc, (.ifCond .gt off), nxt, a, b, v, w, ts) = true) (h : stp X mi (.ifCond .gt off) nxt a b v w ts L st G Q nx) : wp X mi pc L st G Q := by
  have ht := decide_eq_true_eq.mp (and2 hc)
  have e : nxt = pc + 3 := Nat.eq_of_beq_eq_true (and1 hc)
  subst e
  have hd := dlen hd
  unfold stp at h
  dsimp only at h
  split at h
  · rename_i x r
    intro E p l e R s m args below meth c A H locs cells slots ls Z F hr hP hD hS hl
    exact lv_if_gt F.1.1 F.1.2.1 hd ht (fun g => hn _ _ _ _ (h.1 g) E p l e R s m args below meth c A H locs cells slots ls Z F hr hP hD hS hl) (fun g => hn _ _ _ _ (h.2 g) E p l e R s m args below meth c A H locs cells slots ls Z F hr hP hD hS hl)
  · exact h.elim
theorem s_ifCond_le {X : Xt} {mi pc nxt a b : Nat} {v : Int32} {w : Int64} {ts : List Nat} {L : Lt} {st : List Value} {G : Gt} {Q : Qt} {off : Int} {nx : Nt} (hn : ∀ pc L st G, nx pc L st G → wp X mi pc L st G Q) (hd : decode (mB mi) pc = .ok ((.ifCond .le off), nxt - pc)) (hc : chk mi (pc, (.ifCond .le off), nxt, a, b, v, w, ts) = true) (h : stp X mi (.ifCond .le off) nxt a b v w ts L st G Q nx) : wp X mi pc L st G Q := by
  have ht := decide_eq_true_eq.mp (and2 hc)
  have e : nxt = pc + 3 := Nat.eq_of_beq_eq_true (and1 hc)
  subst e
  have hd := dlen hd
  unfold stp at h
  dsimp only at h
  split at h
  · rename_i x r
    intro E p l e R s m args below meth c A H locs cells slots ls Z F hr hP hD hS hl
    exact lv_if_le F.1.1 F.1.2.1 hd ht (fun g => hn _ _ _ _ (h.1 g) E p l e R s m args below meth c A H locs cells slots ls Z F hr hP hD hS hl) (fun g => hn _ _ _ _ (h.2 g) E p l e R s m args below meth c A H locs cells slots ls Z F hr hP hD hS hl)
  · exact h.elim
theorem s_if_icmp_eq {X : Xt} {mi pc nxt a b : Nat} {v : Int32} {w : Int64} {ts : List Nat} {L : Lt} {st : List Value} {G : Gt} {Q : Qt} {off : Int} {nx : Nt} (hn : ∀ pc L st G, nx pc L st G → wp X mi pc L st G Q) (hd : decode (mB mi) pc = .ok ((.if_icmp .eq off), nxt - pc)) (hc : chk mi (pc, (.if_icmp .eq off), nxt, a, b, v, w, ts) = true) (h : stp X mi (.if_icmp .eq off) nxt a b v w ts L st G Q nx) : wp X mi pc L st G Q := by
  have ht := decide_eq_true_eq.mp (and2 hc)
  have e : nxt = pc + 3 := Nat.eq_of_beq_eq_true (and1 hc)
  subst e
  have hd := dlen hd
  unfold stp at h
  dsimp only at h
  split at h
  · rename_i y x r
    intro E p l e R s m args below meth c A H locs cells slots ls Z F hr hP hD hS hl
    exact lv_icmp_eq F.1.1 F.1.2.1 hd ht (fun g => hn _ _ _ _ (h.1 g) E p l e R s m args below meth c A H locs cells slots ls Z F hr hP hD hS hl) (fun g => hn _ _ _ _ (h.2 g) E p l e R s m args below meth c A H locs cells slots ls Z F hr hP hD hS hl)
  · exact h.elim
theorem s_if_icmp_ne {X : Xt} {mi pc nxt a b : Nat} {v : Int32} {w : Int64} {ts : List Nat} {L : Lt} {st : List Value} {G : Gt} {Q : Qt} {off : Int} {nx : Nt} (hn : ∀ pc L st G, nx pc L st G → wp X mi pc L st G Q) (hd : decode (mB mi) pc = .ok ((.if_icmp .ne off), nxt - pc)) (hc : chk mi (pc, (.if_icmp .ne off), nxt, a, b, v, w, ts) = true) (h : stp X mi (.if_icmp .ne off) nxt a b v w ts L st G Q nx) : wp X mi pc L st G Q := by
  have ht := decide_eq_true_eq.mp (and2 hc)
  have e : nxt = pc + 3 := Nat.eq_of_beq_eq_true (and1 hc)
  subst e
  have hd := dlen hd
  unfold stp at h
  dsimp only at h
  split at h
  · rename_i y x r
    intro E p l e R s m args below meth c A H locs cells slots ls Z F hr hP hD hS hl
    exact lv_icmp_ne F.1.1 F.1.2.1 hd ht (fun g => hn _ _ _ _ (h.1 g) E p l e R s m args below meth c A H locs cells slots ls Z F hr hP hD hS hl) (fun g => hn _ _ _ _ (h.2 g) E p l e R s m args below meth c A H locs cells slots ls Z F hr hP hD hS hl)
  · exact h.elim
theorem s_if_icmp_lt {X : Xt} {mi pc nxt a b : Nat} {v : Int32} {w : Int64} {ts : List Nat} {L : Lt} {st : List Value} {G : Gt} {Q : Qt} {off : Int} {nx : Nt} (hn : ∀ pc L st G, nx pc L st G → wp X mi pc L st G Q) (hd : decode (mB mi) pc = .ok ((.if_icmp .lt off), nxt - pc)) (hc : chk mi (pc, (.if_icmp .lt off), nxt, a, b, v, w, ts) = true) (h : stp X mi (.if_icmp .lt off) nxt a b v w ts L st G Q nx) : wp X mi pc L st G Q := by
  have ht := decide_eq_true_eq.mp (and2 hc)
  have e : nxt = pc + 3 := Nat.eq_of_beq_eq_true (and1 hc)
  subst e
  have hd := dlen hd
  unfold stp at h
  dsimp only at h
  split at h
  · rename_i y x r
    intro E p l e R s m args below meth c A H locs cells slots ls Z F hr hP hD hS hl
    exact lv_icmp_lt F.1.1 F.1.2.1 hd ht (fun g => hn _ _ _ _ (h.1 g) E p l e R s m args below meth c A H locs cells slots ls Z F hr hP hD hS hl) (fun g => hn _ _ _ _ (h.2 g) E p l e R s m args below meth c A H locs cells slots ls Z F hr hP hD hS hl)
  · exact h.elim
theorem s_if_icmp_ge {X : Xt} {mi pc nxt a b : Nat} {v : Int32} {w : Int64} {ts : List Nat} {L : Lt} {st : List Value} {G : Gt} {Q : Qt} {off : Int} {nx : Nt} (hn : ∀ pc L st G, nx pc L st G → wp X mi pc L st G Q) (hd : decode (mB mi) pc = .ok ((.if_icmp .ge off), nxt - pc)) (hc : chk mi (pc, (.if_icmp .ge off), nxt, a, b, v, w, ts) = true) (h : stp X mi (.if_icmp .ge off) nxt a b v w ts L st G Q nx) : wp X mi pc L st G Q := by
  have ht := decide_eq_true_eq.mp (and2 hc)
  have e : nxt = pc + 3 := Nat.eq_of_beq_eq_true (and1 hc)
  subst e
  have hd := dlen hd
  unfold stp at h
  dsimp only at h
  split at h
  · rename_i y x r
    intro E p l e R s m args below meth c A H locs cells slots ls Z F hr hP hD hS hl
    exact lv_icmp_ge F.1.1 F.1.2.1 hd ht (fun g => hn _ _ _ _ (h.1 g) E p l e R s m args below meth c A H locs cells slots ls Z F hr hP hD hS hl) (fun g => hn _ _ _ _ (h.2 g) E p l e R s m args below meth c A H locs cells slots ls Z F hr hP hD hS hl)
  · exact h.elim
theorem s_if_icmp_gt {X : Xt} {mi pc nxt a b : Nat} {v : Int32} {w : Int64} {ts : List Nat} {L : Lt} {st : List Value} {G : Gt} {Q : Qt} {off : Int} {nx : Nt} (hn : ∀ pc L st G, nx pc L st G → wp X mi pc L st G Q) (hd : decode (mB mi) pc = .ok ((.if_icmp .gt off), nxt - pc)) (hc : chk mi (pc, (.if_icmp .gt off), nxt, a, b, v, w, ts) = true) (h : stp X mi (.if_icmp .gt off) nxt a b v w ts L st G Q nx) : wp X mi pc L st G Q := by
  have ht := decide_eq_true_eq.mp (and2 hc)
  have e : nxt = pc + 3 := Nat.eq_of_beq_eq_true (and1 hc)
  subst e
  have hd := dlen hd
  unfold stp at h
  dsimp only at h
  split at h
  · rename_i y x r
    intro E p l e R s m args below meth c A H locs cells slots ls Z F hr hP hD hS hl
    exact lv_icmp_gt F.1.1 F.1.2.1 hd ht (fun g => hn _ _ _ _ (h.1 g) E p l e R s m args below meth c A H locs cells slots ls Z F hr hP hD hS hl) (fun g => hn _ _ _ _ (h.2 g) E p l e R s m args below meth c A H locs cells slots ls Z F hr hP hD hS hl)
  · exact h.elim
theorem s_if_icmp_le {X : Xt} {mi pc nxt a b : Nat} {v : Int32} {w : Int64} {ts : List Nat} {L : Lt} {st : List Value} {G : Gt} {Q : Qt} {off : Int} {nx : Nt} (hn : ∀ pc L st G, nx pc L st G → wp X mi pc L st G Q) (hd : decode (mB mi) pc = .ok ((.if_icmp .le off), nxt - pc)) (hc : chk mi (pc, (.if_icmp .le off), nxt, a, b, v, w, ts) = true) (h : stp X mi (.if_icmp .le off) nxt a b v w ts L st G Q nx) : wp X mi pc L st G Q := by
  have ht := decide_eq_true_eq.mp (and2 hc)
  have e : nxt = pc + 3 := Nat.eq_of_beq_eq_true (and1 hc)
  subst e
  have hd := dlen hd
  unfold stp at h
  dsimp only at h
  split at h
  · rename_i y x r
    intro E p l e R s m args below meth c A H locs cells slots ls Z F hr hP hD hS hl
    exact lv_icmp_le F.1.1 F.1.2.1 hd ht (fun g => hn _ _ _ _ (h.1 g) E p l e R s m args below meth c A H locs cells slots ls Z F hr hP hD hS hl) (fun g => hn _ _ _ _ (h.2 g) E p l e R s m args below meth c A H locs cells slots ls Z F hr hP hD hS hl)
  · exact h.elim
theorem sw_get {x : Int32} {nx : Nat → Prop} : ∀ {ts : List Nat} {lo : Int} {t j : Nat}, sw x lo ts nx → ts[j]? = some t → x = Int32.ofInt (lo + j) → nx t
  | [], _, _, _, _, h, _ => by simp at h
  | t :: r, lo, t2, 0, h, h2, h3 => by
    simp at h2
    subst h2
    exact h.1 (by rw [h3]; simp)
  | t :: r, lo, t2, j + 1, h, h2, h3 => by
    refine sw_get (ts := r) (lo := lo + 1) (j := j) h.2 (by simpa using h2) ?_
    rw [h3]
    congr 1
    omega
set_option maxHeartbeats 1000000 in
theorem s_tableswitch {X : Xt} {mi pc nxt a b : Nat} {v : Int32} {w : Int64} {ts : List Nat} {L : Lt} {st : List Value} {G : Gt} {Q : Qt} {d lo hi : Int} {offs : Array Int} {nx : Nt} (hn : ∀ pc L st G, nx pc L st G → wp X mi pc L st G Q) (hd : decode (mB mi) pc = .ok ((.tableswitch d lo hi offs), nxt - pc)) (hc : chk mi (pc, (.tableswitch d lo hi offs), nxt, a, b, v, w, ts) = true) (h : stp X mi (.tableswitch d lo hi offs) nxt a b v w ts L st G Q nx) : wp X mi pc L st G Q := by
  have h5 := decide_eq_true_eq.mp (and2 hc)
  have h4 := decide_eq_true_eq.mp (and2 (and1 hc))
  have h3 := decide_eq_true_eq.mp (and2 (and1 (and1 hc)))
  have h2 := decide_eq_true_eq.mp (and2 (and1 (and1 (and1 hc))))
  have h1 := decide_eq_true_eq.mp (and1 (and1 (and1 (and1 hc))))
  unfold stp at h
  dsimp only at h
  split at h
  · rename_i x r
    intro E p l e R s m args below meth c A H locs cells slots ls Z F hr hP hD hS hl
    by_cases hx : x.toInt < lo ∨ hi < x.toInt
    · exact lv_tableOut F.1.1 F.1.2.1 hd hx h1 (hn _ _ _ _ (h.1 hx) E p l e R s m args below meth c A H locs cells slots ls Z F hr hP hD hS hl)
    · have g1 : ¬ x.toInt < lo := fun z => hx (Or.inl z)
      have g2 : ¬ hi < x.toInt := fun z => hx (Or.inr z)
      have hlen : offs.toList.length = ts.length := by
        have := congrArg List.length h2
        simpa using this
      have hj : (x.toInt - lo).toNat < ts.length := by omega
      obtain ⟨t, ht⟩ : ∃ t, ts[(x.toInt - lo).toNat]? = some t := ⟨_, List.getElem?_eq_getElem hj⟩
      obtain ⟨off, ho⟩ : ∃ off, offs.toList[(x.toInt - lo).toNat]? = some off := ⟨_, List.getElem?_eq_getElem (by rw [hlen]; exact hj)⟩
      have ht2 : (pc : Int) + off = (t : Int) := by
        have := congrArg (fun l => l[(x.toInt - lo).toNat]?) h2
        simp only [List.getElem?_map, ht, ho, Option.map_some, Option.some.injEq] at this
        exact this
      refine lv_tableIn F.1.1 F.1.2.1 hd g1 g2 (by rw [← Array.getElem?_toList]; exact ho) ht2 ?_
      refine hn _ _ _ _ (sw_get h.2 ht ?_) E p l e R s m args below meth c A H locs cells slots ls Z F hr hP hD hS hl
      rw [← Int32.ofInt_toInt x]
      congr 1
      rw [Int32.ofInt_toInt]
      omega
  · exact h.elim
theorem swl_get {x : Int32} {nx : Nat → Prop} {d : Prop} {pc : Nat} {dflt : Int} {a : Nat} (ha : (pc : Int) + dflt = (a : Int)) (P : Nat → Prop) (hP : ∀ t, nx t → P t) (hPd : d → P a) : ∀ {ps : List (Int × Int)} {ts : List Nat}, ps.map (fun o => (pc : Int) + o.2) = ts.map (fun t : Nat => (t : Int)) → swl x ps ts nx d → ∃ t : Nat, (pc : Int) + Op.lookupswitch.offset ps dflt x.toInt = (t : Int) ∧ P t
  | [], [], _, h => ⟨a, by simpa [Op.lookupswitch.offset] using ha, hPd h⟩
  | [], _ :: _, _, h => by simp [swl] at h
  | _ :: _, [], _, h => by simp [swl] at h
  | q :: ps, t :: ts, hm, h => by
    simp only [List.map_cons, List.cons.injEq] at hm
    by_cases e : x.toInt = q.1
    · exact ⟨t, by rw [← hm.1]; simp [Op.lookupswitch.offset, e], hP t (h.1 e)⟩
    · obtain ⟨t2, g1, g2⟩ := swl_get ha P hP hPd hm.2 (h.2 e)
      refine ⟨t2, ?_, g2⟩
      rw [← g1]
      congr 1
      simp [Op.lookupswitch.offset, Ne.symm e]
theorem s_lookupswitch {X : Xt} {mi pc nxt a b : Nat} {v : Int32} {w : Int64} {ts : List Nat} {L : Lt} {st : List Value} {G : Gt} {Q : Qt} {d : Int} {ps : Array (Int × Int)} {nx : Nt} (hn : ∀ pc L st G, nx pc L st G → wp X mi pc L st G Q) (hd : decode (mB mi) pc = .ok ((.lookupswitch d ps), nxt - pc)) (hc : chk mi (pc, (.lookupswitch d ps), nxt, a, b, v, w, ts) = true) (h : stp X mi (.lookupswitch d ps) nxt a b v w ts L st G Q nx) : wp X mi pc L st G Q := by
  have h3 := and2 hc
  have h2 := decide_eq_true_eq.mp (and2 (and1 hc))
  have h1 := decide_eq_true_eq.mp (and1 (and1 hc))
  unfold stp at h
  dsimp only at h
  split at h
  · rename_i x r
    obtain ⟨t, ht, hw⟩ := swl_get h1 (fun t => wp X mi t L r G Q) (fun t z => hn _ _ _ _ z) (fun z => hn _ _ _ _ z) h2 h
    intro E p l e R s m args below meth c A H locs cells slots ls Z F hr hP hD hS hl
    exact lv_lookup F.1.1 F.1.2.1 hd h3 rfl ht (hw E p l e R s m args below meth c A H locs cells slots ls Z F hr hP hD hS hl)
  · exact h.elim
