/-! ONE INSTRUCTION of the abstract machine, as what must hold ahead of it. An entry of the tables: (pc, instruction, next pc, a, b, targets). -/
def lg (L : Lt) (i : Nat) : Option Value := match L with
  | [] => none
  | q :: r => match Nat.beq q.1 i with
    | true => some q.2
    | false => lg r i
theorem lg_mem {i : Nat} {v : Value} : ∀ {L : Lt}, lg L i = some v → (i, v) ∈ L
  | [], h => by cases h
  | q :: r, h => by
    unfold lg at h
    cases hq : Nat.beq q.1 i with
    | true =>
      rw [hq] at h
      have e : q.1 = i := Nat.eq_of_beq_eq_true hq
      have e2 := Option.some.inj h
      rw [← e, ← e2]
      exact List.mem_cons_self
    | false =>
      rw [hq] at h
      exact List.mem_cons_of_mem _ (lg_mem h)
theorem lg_has {E : Ev} {L : Lt} {i nL : Nat} {v : Value} {ls : Array Slot} (h : lv_has ls nL (cL E L)) (hg : lg L i = some v) : ls[i]? = some (.val (cv E v)) := h.2.2 (i, cv E v) (List.mem_map.mpr ⟨(i, v), lg_mem hg, rfl⟩)
def ls1 (L : Lt) (i : Nat) (v : Value) : Lt := (i, v) :: L.filter (fun q => !(q.1 == i) && !(q.1 + 1 == i && q.2.category == 2))
def ls2 (L : Lt) (i : Nat) (v : Value) : Lt := (i, v) :: L.filter (fun q => !(q.1 == i) && (!(q.1 == i + 1) && !(q.1 + 1 == i && q.2.category == 2)))
theorem ls1_cv (E : Ev) (L : Lt) (i : Nat) (v : Value) : (i, cv E v) :: (cL E L).filter (fun q => !(q.1 == i) && !(q.1 + 1 == i && q.2.category == 2)) = cL E (ls1 L i v) := by
  show _ = (i, cv E v) :: (L.filter _).map _
  unfold cL
  rw [List.filter_map]
  congr 2
  apply List.filter_congr
  intro q _
  simp [cv_cat]
theorem ls2_cv (E : Ev) (L : Lt) (i : Nat) (v : Value) : (i, cv E v) :: (cL E L).filter (fun q => !(q.1 == i) && (!(q.1 == i + 1) && !(q.1 + 1 == i && q.2.category == 2))) = cL E (ls2 L i v) := by
  show _ = (i, cv E v) :: (L.filter _).map _
  unfold cL
  rw [List.filter_map]
  congr 2
  apply List.filter_congr
  intro q _
  simp [cv_cat]
/-- the arguments of a call off the stack, in their order, and the rest -/
def tk : Nat → List Value → List Value → Option (List Value × List Value)
  | 0, as, st => some (as, st)
  | _ + 1, _, [] => none
  | n + 1, as, v :: st => tk n (v :: as) st
theorem tk_ok : ∀ {n : Nat} {as st bs rest : List Value}, tk n as st = some (bs, rest) → bs.length = n + as.length ∧ bs.reverse ++ rest = as.reverse ++ st
  | 0, as, st, bs, rest, h => by
    cases h
    exact ⟨by omega, rfl⟩
  | n + 1, as, [], bs, rest, h => by cases h
  | n + 1, as, v :: st, bs, rest, h => by
    obtain ⟨h1, h2⟩ := tk_ok (n := n) h
    refine ⟨by rw [h1]; simp; omega, ?_⟩
    rw [h2]
    simp
def catS (st : List Value) : Nat := match st with
  | [] => 0
  | v :: r => v.category + catS r
theorem catS_ok (E : Ev) : ∀ (st : List Value), ((cS E st).map fun v => v.category).sum = catS st
  | [] => rfl
  | v :: r => by
    have h := catS_ok E r
    simp only [cS, List.map_cons, List.sum_cons] at *
    rw [cv_cat, h]
    rfl
def sw (x : Int32) (lo : Int) (ts : List Nat) (nx : Nat → Prop) : Prop := match ts with
  | [] => True
  | t :: r => (x = Int32.ofInt lo → nx t) ∧ sw x (lo + 1) r nx
def swl (x : Int32) (ps : List (Int × Int)) (ts : List Nat) (nx : Nat → Prop) (d : Prop) : Prop := match ps, ts with
  | [], [] => d
  | q :: ps, t :: ts => (x.toInt = q.1 → nx t) ∧ (¬ x.toInt = q.1 → swl x ps ts nx d)
  | _, _ => False
def arT (p : Nat) : Option (Nat × Nat) := match lay[p]? with
  | some (t, n, _) => some (t, n)
  | none => none
noncomputable def stp (X : Xt) (mi : Nat) (ins : Instr) (nxt a b : Nat) (v : Int32) (w : Int64) (ts : List Nat) (L : Lt) (st : List Value) (G : Gt) (Q : Qt) (nx : Nt) : Prop := match ins with
  | .iconst _ => nx nxt L (.int v :: st) G
  | .bipush _ => nx nxt L (.int v :: st) G
  | .sipush _ => nx nxt L (.int v :: st) G
  | .lconst _ => nx nxt L (.long w :: st) G
  | .ldc _ => nx nxt L (.int v :: st) G
  | .ldc_w _ => nx nxt L (.int v :: st) G
  | .ldc2_w _ => nx nxt L (.long w :: st) G
  | .iload_n k => match lg L k with
    | some (.int x) => nx nxt L (.int x :: st) G
    | _ => False
  | .iload k => match lg L k with
    | some (.int x) => nx nxt L (.int x :: st) G
    | _ => False
  | .lload_n k => match lg L k with
    | some (.long x) => nx nxt L (.long x :: st) G
    | _ => False
  | .lload k => match lg L k with
    | some (.long x) => nx nxt L (.long x :: st) G
    | _ => False
  | .aload_n k => match lg L k with
    | some (.ref x) => nx nxt L (.ref x :: st) G
    | _ => False
  | .aload k => match lg L k with
    | some (.ref x) => nx nxt L (.ref x :: st) G
    | _ => False
  | .istore_n k => match st with
    | .int x :: r => nx nxt (ls1 L k (.int x)) r G
    | _ => False
  | .istore k => match st with
    | .int x :: r => nx nxt (ls1 L k (.int x)) r G
    | _ => False
  | .lstore_n k => match st with
    | .long x :: r => nx nxt (ls2 L k (.long x)) r G
    | _ => False
  | .lstore k => match st with
    | .long x :: r => nx nxt (ls2 L k (.long x)) r G
    | _ => False
  | .iinc k _ => match lg L k with
    | some (.int x) => nx nxt (ls1 L k (.int (x + v))) st G
    | _ => False
  | .iadd => match st with
    | .int y :: .int x :: r => nx nxt L (.int (x + y) :: r) G
    | _ => False
  | .isub => match st with
    | .int y :: .int x :: r => nx nxt L (.int (x - y) :: r) G
    | _ => False
  | .imul => match st with
    | .int y :: .int x :: r => nx nxt L (.int (x * y) :: r) G
    | _ => False
  | .iand => match st with
    | .int y :: .int x :: r => nx nxt L (.int (x &&& y) :: r) G
    | _ => False
  | .ior => match st with
    | .int y :: .int x :: r => nx nxt L (.int (x ||| y) :: r) G
    | _ => False
  | .ixor => match st with
    | .int y :: .int x :: r => nx nxt L (.int (x ^^^ y) :: r) G
    | _ => False
  | .ishl => match st with
    | .int y :: .int x :: r => nx nxt L (.int (x <<< (y &&& 31)) :: r) G
    | _ => False
  | .ishr => match st with
    | .int y :: .int x :: r => nx nxt L (.int (x >>> (y &&& 31)) :: r) G
    | _ => False
  | .idiv => match st with
    | .int y :: .int x :: r => ¬ y = 0 ∧ nx nxt L (.int (x / y) :: r) G
    | _ => False
  | .irem => match st with
    | .int y :: .int x :: r => ¬ y = 0 ∧ nx nxt L (.int (x - x / y * y) :: r) G
    | _ => False
  | .ineg => match st with
    | .int x :: r => nx nxt L (.int (-x) :: r) G
    | _ => False
  | .i2l => match st with
    | .int x :: r => nx nxt L (.long x.toInt64 :: r) G
    | _ => False
  | .i2b => match st with
    | .int x :: r => nx nxt L (.int x.toInt8.toInt32 :: r) G
    | _ => False
  | .i2s => match st with
    | .int x :: r => nx nxt L (.int x.toInt16.toInt32 :: r) G
    | _ => False
  | .ladd => match st with
    | .long y :: .long x :: r => nx nxt L (.long (x + y) :: r) G
    | _ => False
  | .lsub => match st with
    | .long y :: .long x :: r => nx nxt L (.long (x - y) :: r) G
    | _ => False
  | .lcmp => match st with
    | .long y :: .long x :: r => nx nxt L (.int (lg_cmp x y) :: r) G
    | _ => False
  | .dup => match st with
    | v :: r => (match v.category with
      | 1 => nx nxt L (v :: v :: r) G
      | _ => False)
    | _ => False
  | .dup2 => match st with
    | v :: w :: r => (match v.category, w.category with
      | 1, 1 => nx nxt L (v :: w :: v :: w :: r) G
      | _, _ => False)
    | _ => False
  | .pop => match st with
    | v :: r => (match v.category with
      | 1 => nx nxt L r G
      | _ => False)
    | _ => False
  | .goto _ => nx a L st G
  | .ifCond .eq _ => match st with
    | .int x :: r => (x = 0 → nx a L r G) ∧ (¬ x = 0 → nx nxt L r G)
    | _ => False
  | .ifCond .ne _ => match st with
    | .int x :: r => (¬ x = 0 → nx a L r G) ∧ (x = 0 → nx nxt L r G)
    | _ => False
  | .ifCond .lt _ => match st with
    | .int x :: r => (x < 0 → nx a L r G) ∧ (¬ x < 0 → nx nxt L r G)
    | _ => False
  | .ifCond .ge _ => match st with
    | .int x :: r => (0 ≤ x → nx a L r G) ∧ (¬ 0 ≤ x → nx nxt L r G)
    | _ => False
  | .ifCond .gt _ => match st with
    | .int x :: r => (0 < x → nx a L r G) ∧ (¬ 0 < x → nx nxt L r G)
    | _ => False
  | .ifCond .le _ => match st with
    | .int x :: r => (x ≤ 0 → nx a L r G) ∧ (¬ x ≤ 0 → nx nxt L r G)
    | _ => False
  | .if_icmp .eq _ => match st with
    | .int y :: .int x :: r => (x = y → nx a L r G) ∧ (¬ x = y → nx nxt L r G)
    | _ => False
  | .if_icmp .ne _ => match st with
    | .int y :: .int x :: r => (¬ x = y → nx a L r G) ∧ (x = y → nx nxt L r G)
    | _ => False
  | .if_icmp .lt _ => match st with
    | .int y :: .int x :: r => (x < y → nx a L r G) ∧ (¬ x < y → nx nxt L r G)
    | _ => False
  | .if_icmp .ge _ => match st with
    | .int y :: .int x :: r => (y ≤ x → nx a L r G) ∧ (¬ y ≤ x → nx nxt L r G)
    | _ => False
  | .if_icmp .gt _ => match st with
    | .int y :: .int x :: r => (y < x → nx a L r G) ∧ (¬ y < x → nx nxt L r G)
    | _ => False
  | .if_icmp .le _ => match st with
    | .int y :: .int x :: r => (x ≤ y → nx a L r G) ∧ (¬ x ≤ y → nx nxt L r G)
    | _ => False
  | .tableswitch _ lo hi _ => match st with
    | .int x :: r => ((x.toInt < lo ∨ hi < x.toInt) → nx a L r G) ∧ sw x lo ts (fun t => nx t L r G)
    | _ => False
  | .lookupswitch _ ps => match st with
    | .int x :: r => swl x ps.toList ts (fun t => nx t L r G) (nx a L r G)
    | _ => False
  | .getfield _ => match st with
    | .ref q :: r => (match lay[q]? with
      | some (0, ci, fs) => (match Nat.beq ci a, fs[b]? with
        | true, some (some z) => nx nxt L (.ref z :: r) G
        | true, some none => nx nxt L (.int (G q b) :: r) G
        | _, _ => False)
      | _ => False)
    | _ => False
  | .putfield _ => match st with
    | .int x :: .ref q :: r => (match lay[q]? with
      | some (0, ci, fs) => (match Nat.beq ci a, fs[b]? with
        | true, some none => nx nxt L r (sG G q (upd (G q) b x))
        | _, _ => False)
      | _ => False)
    | _ => False
  | .getstatic _ => nx nxt L (.ref a :: st) G
  | .iaload => match st with
    | .int i :: .ref q :: r => (match arT q with
      | some (1, n) => vp_in i n ∧ nx nxt L (.int (G q i.toNatClampNeg) :: r) G
      | some (3, _) => vp_in i (xL X q) ∧ nx nxt L (.int (xF X q i.toNatClampNeg) :: r) G
      | _ => False)
    | _ => False
  | .baload => match st with
    | .int i :: .ref q :: r => (match arT q with
      | some (2, n) => vp_in i n ∧ nx nxt L (.int (G q i.toNatClampNeg) :: r) G
      | _ => False)
    | _ => False
  | .iastore => match st with
    | .int x :: .int i :: .ref q :: r => (match arT q with
      | some (1, n) => vp_in i n ∧ nx nxt L r (sG G q (upd (G q) i.toNatClampNeg x))
      | _ => False)
    | _ => False
  | .bastore => match st with
    | .int x :: .int i :: .ref q :: r => (match arT q with
      | some (2, n) => vp_in i n ∧ nx nxt L r (sG G q (upd (G q) i.toNatClampNeg (vp_nar .boolean x)))
      | _ => False)
    | _ => False
  | .arraylength => match st with
    | .ref q :: r => (match arT q with
      | some (1, n) => nx nxt L (.int (Int32.ofNat n) :: r) G
      | some (2, n) => nx nxt L (.int (Int32.ofNat n) :: r) G
      | some (3, _) => nx nxt L (.int (Int32.ofNat (xL X q)) :: r) G
      | _ => False)
    | _ => False
  | .return_ => match st, mR mi with
    | [], none => Q none G
    | _, _ => False
  | .ireturn => match st, mR mi with
    | [.int v], some .int => Q (some (.int v)) G
    | [.int v], some .boolean => narrow .boolean (.int v) = .int v ∧ Q (some (.int v)) G
    | _, _ => False
  | .lreturn => match st, mR mi with
    | [.long v], some .long => Q (some (.long v)) G
    | _, _ => False
  | .invokevirtual _ => match tk b [] st with
    | some (as, .ref q :: r) => (match lay[q]? with
      | some (0, ci, _) => (match Nat.beq (ocR.getD ci 99) (mO a) && Nat.ble (catS r) 8 with
        | true => con X a (.ref q :: as) G (fun v G' => nx nxt L (v.toList ++ r) G')
        | false => False)
      | _ => False)
    | _ => False
  | .invokestatic _ => match a with
    | 900 => (match st with
      | .int y :: .int x :: r => (match Nat.ble (catS r) 8 with
        | true => nx nxt L (.int (if x < y then y else x) :: r) G
        | false => False)
      | _ => False)
    | 901 => (match st with
      | .int y :: .int x :: r => (match Nat.ble (catS r) 8 with
        | true => nx nxt L (.int (if y < x then y else x) :: r) G
        | false => False)
      | _ => False)
    | 902 => (match st with
      | .int x :: r => (match Nat.ble (catS r) 8 with
        | true => nx nxt L (.int (if 0 ≤ x then x else 0 - x) :: r) G
        | false => False)
      | _ => False)
    | 903 => (match st with
      | .int n :: .int dp :: .ref d :: .int sp :: .ref z :: r => (match arT z, arT d, Nat.ble (catS r) 8 with
        | some (1, n0), some (1, n1), true => ¬ sp < 0 ∧ ¬ dp < 0 ∧ ¬ n < 0 ∧ sp.toNatClampNeg + n.toNatClampNeg ≤ n0 ∧ dp.toNatClampNeg + n.toNatClampNeg ≤ n1 ∧ nx nxt L r (sG G d (va_cpy (G z) (G d) sp.toNatClampNeg dp.toNatClampNeg n.toNatClampNeg))
        | _, _, _ => False)
      | _ => False)
    | _ => (match tk b [] st with
      | some (as, r) => (match Nat.ble (catS r) 8 with
        | true => con X a as G (fun v G' => nx nxt L (v.toList ++ r) G')
        | false => False)
      | _ => False)
  | _ => False
/-- what a program checks of an entry, apart from its bytes -/
noncomputable def rmOK (mi a : Nat) : Bool := Nat.ble (mF a + 1) (mF mi) && Nat.ble (8 + (mL a + 11) + mLo a) (mLo mi)
noncomputable def chk (mi : Nat) (en : En) : Bool := match en with
  | (pc, ins, nxt, a, b, v, w, ts) => match ins with
    | .iconst n => Nat.beq nxt (pc + 1) && decide (Int32.ofInt n = v)
    | .bipush n => Nat.beq nxt (pc + 2) && decide ((Int8.ofInt n).toInt32 = v)
    | .sipush n => Nat.beq nxt (pc + 3) && decide ((Int16.ofInt n).toInt32 = v)
    | .lconst n => Nat.beq nxt (pc + 1) && decide (Int64.ofNat (n : Nat) = w)
    | .ldc i => Nat.beq nxt (pc + 2) && decide ((mO mi, i, v) ∈ cIs)
    | .ldc_w i => Nat.beq nxt (pc + 3) && decide ((mO mi, i, v) ∈ cIs)
    | .ldc2_w i => Nat.beq nxt (pc + 3) && decide ((mO mi, i, w) ∈ cLs)
    | .iload_n _ => Nat.beq nxt (pc + 1)
    | .iload _ => Nat.beq nxt (pc + 2)
    | .lload_n _ => Nat.beq nxt (pc + 1)
    | .lload _ => Nat.beq nxt (pc + 2)
    | .aload_n _ => Nat.beq nxt (pc + 1)
    | .aload _ => Nat.beq nxt (pc + 2)
    | .istore_n k => Nat.beq nxt (pc + 1) && Nat.blt k (mL mi)
    | .istore k => Nat.beq nxt (pc + 2) && Nat.blt k (mL mi)
    | .lstore_n k => Nat.beq nxt (pc + 1) && Nat.blt (k + 1) (mL mi)
    | .lstore k => Nat.beq nxt (pc + 2) && Nat.blt (k + 1) (mL mi)
    | .iinc k n => Nat.beq nxt (pc + 3) && Nat.blt k (mL mi) && decide (Int32.ofInt n = v)
    | .goto off => Nat.beq nxt (pc + 3) && decide ((pc : Int) + off = (a : Int))
    | .ifCond _ off => Nat.beq nxt (pc + 3) && decide ((pc : Int) + off = (a : Int))
    | .if_icmp _ off => Nat.beq nxt (pc + 3) && decide ((pc : Int) + off = (a : Int))
    | .tableswitch d lo hi offs => decide ((pc : Int) + d = (a : Int)) && decide (offs.toList.map (fun o => (pc : Int) + o) = ts.map (fun t : Nat => (t : Int))) && decide (hi = lo + ts.length - 1) && decide (-1000 ≤ lo) && decide (hi ≤ 1000)
    | .lookupswitch d ps => decide ((pc : Int) + d = (a : Int)) && decide (ps.toList.map (fun o => (pc : Int) + o.2) = ts.map (fun t : Nat => (t : Int))) && (ps.toList.zip (ps.toList.drop 1)).all (fun (a, next) => a.1 < next.1)
    | .getfield i => Nat.beq nxt (pc + 3) && decide ((mO mi, i, a, b) ∈ fls)
    | .putfield i => Nat.beq nxt (pc + 3) && decide ((mO mi, i, a, b) ∈ fls)
    | .getstatic i => Nat.beq nxt (pc + 3) && decide ((mO mi, i, a) ∈ gls)
    | .invokevirtual i => Nat.beq nxt (pc + 3) && decide ((mO mi, i, a) ∈ mls) && (Nat.beq (mK a) 0 && rmOK mi a && decide ((parseMethodDescriptor (mY a).desc).map (fun d => d.parameters.length) = some b))
    | .invokestatic i => if 900 ≤ a then Nat.beq nxt (pc + 3) && decide ((mO mi, i, a) ∈ sls) && Nat.ble 1 (mF mi) && Nat.ble 26 (mLo mi + (if a = 903 then 0 else 5)) else Nat.beq nxt (pc + 3) && (decide ((mO mi, i, a) ∈ mls) || decide ((mO mi, i, a) ∈ nls)) && (Nat.beq (mK a) 1 && rmOK mi a && decide ((parseMethodDescriptor (mY a).desc).map (fun d => d.parameters.length) = some b))
    | _ => Nat.beq nxt (pc + 1)
