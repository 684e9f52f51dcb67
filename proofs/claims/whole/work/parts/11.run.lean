/-! many instructions at once: a program that the kernel runs -/
theorem stp_sound {X : Xt} {mi pc nxt a b : Nat} {v : Int32} {w : Int64} {ts : List Nat} {L : Lt} {st : List Value} {G : Gt} {Q : Qt} {ins : Instr} {nx : Nt} (hn : ∀ pc L st G, nx pc L st G → wp X mi pc L st G Q) (hd : decode (mB mi) pc = .ok (ins, nxt - pc)) (hc : chk mi (pc, ins, nxt, a, b, v, w, ts) = true) (h : stp X mi ins nxt a b v w ts L st G Q nx) : wp X mi pc L st G Q := by
  cases ins
  case iconst => exact s_iconst hn hd hc h
  case bipush => exact s_bipush hn hd hc h
  case sipush => exact s_sipush hn hd hc h
  case lconst => exact s_lconst hn hd hc h
  case ldc => exact s_ldc hn hd hc h
  case ldc_w => exact s_ldc_w hn hd hc h
  case ldc2_w => exact s_ldc2_w hn hd hc h
  case iload_n => exact s_iload_n hn hd hc h
  case iload => exact s_iload hn hd hc h
  case lload_n => exact s_lload_n hn hd hc h
  case lload => exact s_lload hn hd hc h
  case aload_n => exact s_aload_n hn hd hc h
  case aload => exact s_aload hn hd hc h
  case istore_n => exact s_istore_n hn hd hc h
  case istore => exact s_istore hn hd hc h
  case lstore_n => exact s_lstore_n hn hd hc h
  case lstore => exact s_lstore hn hd hc h
  case iinc => exact s_iinc hn hd hc h
  case iadd => exact s_iadd hn hd hc h
  case isub => exact s_isub hn hd hc h
  case imul => exact s_imul hn hd hc h
  case iand => exact s_iand hn hd hc h
  case ior => exact s_ior hn hd hc h
  case ixor => exact s_ixor hn hd hc h
  case ishl => exact s_ishl hn hd hc h
  case ishr => exact s_ishr hn hd hc h
  case idiv => exact s_idiv hn hd hc h
  case irem => exact s_irem hn hd hc h
  case ineg => exact s_ineg hn hd hc h
  case i2l => exact s_i2l hn hd hc h
  case i2b => exact s_i2b hn hd hc h
  case i2s => exact s_i2s hn hd hc h
  case ladd => exact s_ladd hn hd hc h
  case lsub => exact s_lsub hn hd hc h
  case lcmp => exact s_lcmp hn hd hc h
  case dup => exact s_dup hn hd hc h
  case dup2 => exact s_dup2 hn hd hc h
  case pop => exact s_pop hn hd hc h
  case goto => exact s_goto hn hd hc h
  case ifCond cond off =>
    cases cond
    · exact s_ifCond_eq hn hd hc h
    · exact s_ifCond_ne hn hd hc h
    · exact s_ifCond_lt hn hd hc h
    · exact s_ifCond_ge hn hd hc h
    · exact s_ifCond_gt hn hd hc h
    · exact s_ifCond_le hn hd hc h
  case if_icmp cond off =>
    cases cond
    · exact s_if_icmp_eq hn hd hc h
    · exact s_if_icmp_ne hn hd hc h
    · exact s_if_icmp_lt hn hd hc h
    · exact s_if_icmp_ge hn hd hc h
    · exact s_if_icmp_gt hn hd hc h
    · exact s_if_icmp_le hn hd hc h
  case tableswitch => exact s_tableswitch hn hd hc h
  case lookupswitch => exact s_lookupswitch hn hd hc h
  case getfield => exact s_getfield hn hd hc h
  case putfield => exact s_putfield hn hd hc h
  case getstatic => exact s_getstatic hn hd hc h
  case iaload => exact s_iaload hn hd hc h
  case baload => exact s_baload hn hd hc h
  case iastore => exact s_iastore hn hd hc h
  case bastore => exact s_bastore hn hd hc h
  case arraylength => exact s_arraylength hn hd hc h
  case return_ => exact s_return_ hn hd hc h
  case ireturn => exact s_ireturn hn hd hc h
  case lreturn => exact s_lreturn hn hd hc h
  case invokevirtual => exact s_invokevirtual hn hd hc h
  case invokestatic => exact s_invokestatic hn hd hc h
  all_goals exact False.elim h
theorem ck_0 : (List.range' 0 60).all (fun i => (iT i).all (chk i)) = true := by decide +kernel
theorem ck_1 : (List.range' 60 60).all (fun i => (iT i).all (chk i)) = true := by decide +kernel
theorem ck_2 : (List.range' 120 54).all (fun i => (iT i).all (chk i)) = true := by decide +kernel
theorem ck_3 : (iT 174).all (chk 174) = true := by decide +kernel
theorem ck_all {i : Nat} {en : En} (h : en ∈ iT i) : chk i en = true := by
  have key : ∀ {a n : Nat}, (List.range' a n).all (fun i => (iT i).all (chk i)) = true → a ≤ i → i < a + n → (iT i).all (chk i) = true := fun hh h1 h2 => List.all_eq_true.mp hh i (List.mem_range'_1.mpr ⟨h1, h2⟩)
  have h0 : (iT i).all (chk i) = true := by
    by_cases q0 : i < 60
    · exact key ck_0 (by omega) (by omega)
    by_cases q1 : i < 120
    · exact key ck_1 (by omega) (by omega)
    by_cases q2 : i < 174
    · exact key ck_2 (by omega) (by omega)
    by_cases ql : i = 174
    · rw [ql]; exact ck_3
    · have e : iT i = [] := by
        unfold iT
        rw [List.getD_eq_getElem?_getD, List.getElem?_eq_none (show iTs.length ≤ i from (show iTs.length = 175 from rfl) ▸ (by omega))]
        rfl
      rw [e]; rfl
  exact List.all_eq_true.mp h0 en h
/-- the entry at pc -/
def look (T : List En) (pc : Nat) : Option En := match T with
  | [] => none
  | en :: r => match Nat.beq en.1 pc with
    | true => some en
    | false => look r pc
theorem look_mem {pc : Nat} {en : En} : ∀ {T : List En}, look T pc = some en → en ∈ T ∧ en.1 = pc
  | [], h => by cases h
  | q :: r, h => by
    unfold look at h
    cases hq : Nat.beq q.1 pc with
    | true =>
      rw [hq] at h
      cases h
      exact ⟨List.mem_cons_self, Nat.eq_of_beq_eq_true hq⟩
    | false =>
      rw [hq] at h
      exact ⟨List.mem_cons_of_mem _ (look_mem h).1, (look_mem h).2⟩
/-- n instructions from pc on, but none at a pc of 'stops' (the first one apart) -/
noncomputable def rn (X : Xt) (mi : Nat) (stops : List Nat) (Q : Qt) : Nat → Nt
  | 0 => fun pc L st G => wp X mi pc L st G Q
  | n + 1 => fun pc L st G => match look (iT mi) pc with
    | some (_, ins, nxt, a, b, v, w, ts) => stp X mi ins nxt a b v w ts L st G Q (fun pc L st G => match stops.contains pc with
      | true => wp X mi pc L st G Q
      | false => rn X mi stops Q n pc L st G)
    | none => False
theorem rn_wp {X : Xt} {mi : Nat} {stops : List Nat} {Q : Qt} : ∀ (n : Nat) {pc : Nat} {L : Lt} {st : List Value} {G : Gt}, rn X mi stops Q n pc L st G → wp X mi pc L st G Q
  | 0, _, _, _, _, h => h
  | n + 1, pc, L, st, G, h => by
    unfold rn at h
    split at h
    · rename_i pc0 ins nxt a b v w ts hlk
      obtain ⟨hm, he⟩ := look_mem hlk
      have he : pc0 = pc := he
      subst he
      obtain ⟨hd, hlt⟩ := dk_all hm
      refine stp_sound ?_ hd (ck_all hm) h
      intro pc L st G h2
      split at h2
      · exact h2
      · exact rn_wp n h2
    · exact h.elim
/-- a contract, its body run -/
theorem con_rn {X : Xt} {mi : Nat} {av : List Value} {G : Gt} {Q : Qt} (n : Nat) (stops : List Nat) (hlt : mi < 174) (hl : Nat.ble (lg_sl av).length (mL mi) = true) (h : rn X mi stops Q n 0 (lv_args 0 av) [] G) : con X mi av G Q :=
  con_of (meth_ok hlt).2.2.2.1 (meth_ok hlt).2.1 (Nat.le_of_ble_eq_true hl) (rn_wp n h)
