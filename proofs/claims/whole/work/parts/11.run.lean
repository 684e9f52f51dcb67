/-! many instructions at once: a program that the kernel runs -/
theorem stp_sound {X : Xt} {mi pc nxt a : Nat} {b : Int} {ts : List Nat} {L : Lt} {st : List Value} {G : Gt} {Q : Qt} {ins : Instr} (hd : decode (mB mi) pc = .ok (ins, nxt - pc)) (hc : chk mi (pc, ins, nxt, a, b, ts) = true) (h : stp X mi ins nxt a b ts L st G Q (fun pc L st G => wp X mi pc L st G Q)) : wp X mi pc L st G Q := by
  cases ins
  case iconst => exact s_iconst hd hc h
  case bipush => exact s_bipush hd hc h
  case sipush => exact s_sipush hd hc h
  case lconst => exact s_lconst hd hc h
  case ldc => exact s_ldc hd hc h
  case ldc_w => exact s_ldc_w hd hc h
  case ldc2_w => exact s_ldc2_w hd hc h
  case iload_n => exact s_iload_n hd hc h
  case iload => exact s_iload hd hc h
  case lload_n => exact s_lload_n hd hc h
  case lload => exact s_lload hd hc h
  case aload_n => exact s_aload_n hd hc h
  case aload => exact s_aload hd hc h
  case istore_n => exact s_istore_n hd hc h
  case istore => exact s_istore hd hc h
  case lstore_n => exact s_lstore_n hd hc h
  case lstore => exact s_lstore hd hc h
  case iinc => exact s_iinc hd hc h
  case iadd => exact s_iadd hd hc h
  case isub => exact s_isub hd hc h
  case imul => exact s_imul hd hc h
  case iand => exact s_iand hd hc h
  case ior => exact s_ior hd hc h
  case ixor => exact s_ixor hd hc h
  case ishl => exact s_ishl hd hc h
  case ishr => exact s_ishr hd hc h
  case idiv => exact s_idiv hd hc h
  case irem => exact s_irem hd hc h
  case ineg => exact s_ineg hd hc h
  case i2l => exact s_i2l hd hc h
  case i2b => exact s_i2b hd hc h
  case i2s => exact s_i2s hd hc h
  case ladd => exact s_ladd hd hc h
  case lsub => exact s_lsub hd hc h
  case lcmp => exact s_lcmp hd hc h
  case dup => exact s_dup hd hc h
  case dup2 => exact s_dup2 hd hc h
  case pop => exact s_pop hd hc h
  case goto => exact s_goto hd hc h
  case ifCond cond off =>
    cases cond
    · exact s_ifCond_eq hd hc h
    · exact s_ifCond_ne hd hc h
    · exact s_ifCond_lt hd hc h
    · exact s_ifCond_ge hd hc h
    · exact s_ifCond_gt hd hc h
    · exact s_ifCond_le hd hc h
  case if_icmp cond off =>
    cases cond
    · exact s_if_icmp_eq hd hc h
    · exact s_if_icmp_ne hd hc h
    · exact s_if_icmp_lt hd hc h
    · exact s_if_icmp_ge hd hc h
    · exact s_if_icmp_gt hd hc h
    · exact s_if_icmp_le hd hc h
  case tableswitch => exact s_tableswitch hd hc h
  case lookupswitch => exact s_lookupswitch hd hc h
  case getfield => exact s_getfield hd hc h
  case putfield => exact s_putfield hd hc h
  case getstatic => exact s_getstatic hd hc h
  case iaload => exact s_iaload hd hc h
  case baload => exact s_baload hd hc h
  case iastore => exact s_iastore hd hc h
  case bastore => exact s_bastore hd hc h
  case arraylength => exact s_arraylength hd hc h
  case return_ => exact s_return_ hd hc h
  case ireturn => exact s_ireturn hd hc h
  case lreturn => exact s_lreturn hd hc h
  case invokevirtual => exact s_invokevirtual hd hc h
  case invokestatic => exact s_invokestatic hd hc h
  all_goals exact False.elim h
theorem ck_0 : (List.range' 0 60).all (fun i => (iT i).all (chk i)) = true := by decide +kernel
theorem ck_1 : (List.range' 60 60).all (fun i => (iT i).all (chk i)) = true := by decide +kernel
theorem ck_2 : (List.range' 120 54).all (fun i => (iT i).all (chk i)) = true := by decide +kernel
theorem ck_3 : (iT 174).all (chk 174) = true := by decide +kernel
theorem ck_all {i : Nat} {en : En} (h : en ∈ iT i) : chk i en = true := by
  have key : ∀ {a n : Nat}, (List.range' a n).all (fun i => (iT i).all (chk i)) = true → a ≤ i → i < a + n → (iT i).all (chk i) = true := fun hh h1 h2 => List.all_eq_true.mp hh i (List.mem_range'_1.mpr ⟨h1, h2⟩)
  have h0 : (iT i).all (chk i) = true := by
    by_cases q0 : i < 60
    · exact key ck_0 (by omega) (by omega)
    by_cases q1 : i < 120
    · exact key ck_1 (by omega) (by omega)
    by_cases q2 : i < 174
    · exact key ck_2 (by omega) (by omega)
    by_cases ql : i = 174
    · rw [ql]; exact ck_3
    · have e : iT i = [] := by
        unfold iT
        rw [List.getD_eq_getElem?_getD, List.getElem?_eq_none (show iTs.length ≤ i from (show iTs.length = 175 from rfl) ▸ (by omega))]
        rfl
      rw [e]; rfl
  exact List.all_eq_true.mp h0 en h
/-- the entry at pc -/
def look (T : List En) (pc : Nat) : Option En := match T with
  | [] => none
  | en :: r => match Nat.beq en.1 pc with
    | true => some en
    | false => look r pc
theorem look_mem {pc : Nat} {en : En} : ∀ {T : List En}, look T pc = some en → en ∈ T ∧ en.1 = pc
  | [], h => by cases h
  | q :: r, h => by
    unfold look at h
    cases hq : Nat.beq q.1 pc with
    | true =>
      rw [hq] at h
      cases h
      exact ⟨List.mem_cons_self, Nat.eq_of_beq_eq_true hq⟩
    | false =>
      rw [hq] at h
      exact ⟨List.mem_cons_of_mem _ (look_mem h).1, (look_mem h).2⟩
/-- n instructions from pc on, but none at a pc of 'stops' (the first one apart) -/
noncomputable def rn (X : Xt) (mi : Nat) (stops : List Nat) (Q : Qt) : Nat → Nt
  | 0 => fun pc L st G => wp X mi pc L st G Q
  | n + 1 => fun pc L st G => match look (iT mi) pc with
    | some (_, ins, nxt, a, b, ts) => stp X mi ins nxt a b ts L st G Q (fun pc L st G => match stops.contains pc with
      | true => wp X mi pc L st G Q
      | false => rn X mi stops Q n pc L st G)
    | none => False
