/-! THE ABSTRACT MACHINE. Cells have numbers (their places in lay); what may change are ints alone: G p k, of the cell p the field or element k. -/
abbrev Gt : Type := Nat → Nat → Int32
abbrev Lt : Type := List (Nat × Value)
abbrev Xt : Type := Nat × (Nat → Int32)
abbrev Ev : Type := va_G × (Nat → Nat) × ClassId × ClassId
abbrev Qt : Type := Option Value → Gt → Prop
abbrev Nt : Type := Nat → Lt → List Value → Gt → Prop
def sG (G : Gt) (p : Nat) (f : Nat → Int32) : Gt := fun q => if q = p then f else G q
/-- the cells: 0 an object of a class (its fields: a cell, or an int), 1 an int array, 2 a boolean array, 3 one that is only read -/
def lay : List (Nat × Nat × List (Option Nat)) := [
  (0, 8, [some 1, some 5, some 9, some 14, some 18, some 21, some 24, none]),
  (0, 5, [some 2, some 3, some 4]), (1, 800, []), (1, 8, []), (1, 8, []),
  (0, 7, [some 6, some 7, some 8, none]), (1, 5, []), (1, 6, []), (1, 6, []),
  (0, 4, [some 10, some 11, some 12, some 13, none]), (1, 4, []), (1, 3, []), (1, 4, []), (1, 12, []),
  (0, 3, [some 15, some 16, some 17, none]), (2, 96, []), (2, 96, []), (1, 96, []),
  (0, 2, [some 19, some 20, none]), (1, 48, []), (1, 48, []),
  (0, 6, [some 22, some 23, none, none, none, none, none]), (2, 100, []), (1, 100, []),
  (0, 0, [some 25, none]), (1, 16, []),
  (0, 9, [none, none, some 27, some 28, some 29, some 30, none, some 31, some 32, some 33, some 34, some 35, some 36, some 37, none, some 38, some 39, some 40, some 41, some 42, none]),
  (1, 8, []), (1, 8, []), (1, 800, []), (1, 5, []), (1, 6, []), (1, 6, []), (1, 4, []), (1, 3, []), (2, 12, []), (1, 12, []), (1, 8, []), (1, 68, []), (1, 68, []), (1, 8, []), (1, 100, []), (1, 16, []),
  (3, 0, []), (3, 0, []), (3, 0, [])]
/-- of the classes of the worlds the numbers of their names -/
def ocR : List Nat := [1, 1, 3, 4, 5, 6, 7, 8, 0, 10]
theorem ocR_ok : ∀ ci, ci < 10 → ∀ q, classes[ci]? = some q → cN (ocR.getD ci 99) = q.1 := by decide +kernel
def cv (E : Ev) : Value → Value
  | .ref p => .ref (E.2.1 p)
  | v => v
def cS (E : Ev) (st : List Value) : List Value := st.map (cv E)
def cL (E : Ev) (L : Lt) : Lt := L.map (fun q => (q.1, cv E q.2))
theorem cv_cat (E : Ev) (v : Value) : (cv E v).category = v.category := by cases v <;> rfl
def fV (E : Ev) (G : Gt) (p : Nat) (q : Option Nat × Nat) : Value := match q.1 with
  | some r => .ref (E.2.1 r)
  | none => .int (G p q.2)
def cE (E : Ev) (G : Gt) (p : Nat) : va_E := match lay[p]? with
  | some (0, ci, fs) => .inr (ci, fs.zipIdx.map (fV E G p))
  | some (1, n, _) => .inl (E.2.2.1, n, .inl (G p))
  | some (2, n, _) => .inl (E.2.2.2, n, .inl (G p))
  | _ => .inr (0, [])
def ws (E : Ev) (G : Gt) : va_W := (List.range 43).map (fun p => (E.2.1 p, cE E G p))
def tys (E : Ev) : List (ClassId × FieldType) := [(E.2.2.1, .int), (E.2.2.2, .boolean)]
theorem ws_at {E : Ev} {G : Gt} {p : Nat} (h : p < 43) : (ws E G)[p]? = some (E.2.1 p, cE E G p) := by
  unfold ws
  rw [List.getElem?_map, List.getElem?_range h]
  rfl
theorem ws_none {E : Ev} {G : Gt} {p : Nat} (h : ¬ p < 43) : (ws E G)[p]? = none := by
  apply List.getElem?_eq_none
  simp [ws]
  omega
theorem ws_inv {E : Ev} {G : Gt} {p : Nat} {q : Nat × va_E} (h : (ws E G)[p]? = some q) : p < 43 ∧ q = (E.2.1 p, cE E G p) := by
  by_cases hp : p < 43
  · rw [ws_at hp] at h
    exact ⟨hp, (Option.some.inj h).symm⟩
  · rw [ws_none hp] at h; cases h
theorem cE_congr {E : Ev} {G G' : Gt} {p : Nat} (h : G' p = G p) : cE E G' p = cE E G p := by
  have e : fV E G' p = fV E G p := by
    funext q
    unfold fV
    rw [h]
  unfold cE
  rw [e, h]
theorem ws_set {E : Ev} {G : Gt} {p : Nat} (h : p < 43) (G' : Gt) {e : va_E} (he : cE E G' p = e) (hq : ∀ q, q ≠ p → G' q = G q) : (ws E G).set p (E.2.1 p, e) = ws E G' := by
  apply List.ext_getElem?
  intro i
  by_cases hi : p = i
  · subst hi
    rw [List.getElem?_set_self (by simp [ws]; exact h), ws_at h, he]
  · rw [List.getElem?_set_ne hi]
    by_cases h4 : i < 43
    · rw [ws_at h4, ws_at h4, cE_congr (hq i (Ne.symm hi))]
    · rw [ws_none h4, ws_none h4]
theorem sG_at {G : Gt} {p : Nat} {f : Nat → Int32} : sG G p f p = f := if_pos rfl
theorem sG_ne {G : Gt} {p q : Nat} {f : Nat → Int32} (h : q ≠ p) : sG G p f q = G q := if_neg h
theorem fs_get {E : Ev} {G : Gt} {p k : Nat} {fs : List (Option Nat)} {o : Option Nat} (h : fs[k]? = some o) : (fs.zipIdx.map (fV E G p))[k]? = some (fV E G p (o, k)) := by
  rw [List.getElem?_map, List.getElem?_zipIdx, h]
  simp
theorem fs_set {E : Ev} {G : Gt} {p k : Nat} {fs : List (Option Nat)} {x : Int32} (h : fs[k]? = some none) : fs.zipIdx.map (fV E (sG G p (upd (G p) k x)) p) = (fs.zipIdx.map (fV E G p)).set k (.int x) := by
  apply List.ext_getElem?
  intro i
  have hl : k < (fs.zipIdx.map (fV E G p)).length := by
    simp
    exact (List.getElem?_eq_some_iff.mp h).1
  by_cases hi : k = i
  · subst hi
    rw [List.getElem?_set_self hl, fs_get h]
    simp [fV, sG_at, upd]
  · rw [List.getElem?_set_ne hi, List.getElem?_map, List.getElem?_map]
    cases hz : fs.zipIdx[i]? with
    | none => rfl
    | some q =>
      have hq : q.2 = i := by
        rw [List.getElem?_zipIdx] at hz
        cases ho : fs[i]? with
        | none => rw [ho] at hz; cases hz
        | some o => rw [ho] at hz; simp at hz; rw [← hz]
      simp only [Option.map_some, Option.some.injEq]
      unfold fV
      cases q.1 with
      | some r => rfl
      | none => simp [sG_at, upd, hq, Ne.symm hi]
def xL (X : Xt) (e : Nat) : Nat := match e with
  | 43 => X.1
  | _ => 5
def xF (X : Xt) (e j : Nat) : Int32 := match e with
  | 43 => X.2 j
  | 44 => (match j with
    | 4 => 2
    | _ => 1)
  | _ => (match j with
    | 0 => 100
    | 1 => 50
    | 2 => 60
    | 3 => 1000
    | _ => 30)
def XT (X : Xt) (E : Ev) (A : Nat → Prop) (U : State) (H : Heap) : Prop :=
  (∀ e, 43 ≤ e → e ≤ 45 → va_X (E.2.1 e) (xL X e) (xF X e) U H ∧ ¬ A (E.2.1 e)) ∧ ∀ e, 44 ≤ e → e ≤ 45 → va_Z "StoneWorks$Wall" (gN e) "[I" (.ref (E.2.1 e)) A U H
theorem XT.moved {X : Xt} {E : Ev} {A : Nat → Prop} {u U : State} {H : Heap} (hvm : u.vm.Alike U.vm) (h : XT X E A u H) : XT X E A U H := ⟨fun e h1 h2 => ⟨(h.1 e h1 h2).1.moved hvm, (h.1 e h1 h2).2⟩, fun e h1 h2 => (h.2 e h1 h2).moved hvm⟩
theorem XT.kept {X : Xt} {E : Ev} {A : Nat → Prop} {U : State} {H H1 : Heap} (h : XT X E A U H) (hq : ∀ a : Nat, a < H.size → ¬ A a → H1[a]? = H[a]?) : XT X E A U H1 := by
  refine ⟨fun e h1 h2 => ?_, fun e h1 h2 => (h.2 e h1 h2).kept hq⟩
  obtain ⟨⟨scr, g1, g2⟩, g3⟩ := h.1 e h1 h2
  exact ⟨va_X.kept ⟨scr, g1, g2⟩ (hq _ (Array.getElem?_eq_some_iff.mp g1).1 g3), g3⟩
theorem XT.narrow {X : Xt} {E : Ev} {A B : Nat → Prop} {U : State} {H : Heap} (h : XT X E A U H) (hAB : ∀ q, B q → A q) : XT X E B U H := ⟨fun e h1 h2 => ⟨(h.1 e h1 h2).1, fun z => (h.1 e h1 h2).2 (hAB _ z)⟩, fun e h1 h2 => (h.2 e h1 h2).narrow hAB⟩
/-- which cells a method may change -/
def Ao (E : Ev) (sz : Nat) : Nat → Prop := fun q => (∃ p, p < 43 ∧ q = E.2.1 p) ∨ sz ≤ q
def Wd (X : Xt) (E : Ev) (sz : Nat) (G : Gt) (U : State) : Prop := U.heap.size = sz ∧ va_P E.1 classes (ws E G) U.heap ∧ va_K E.1 classes (tys E) U ∧ va_D (Ao E sz) (ws E G) ∧ (∀ q ∈ nls, va_Nw (nW q) U) ∧ XT X E (Ao E sz) U U.heap
def rok (mi : Nat) (r : Option Value) : Prop := match mR mi, r with
  | none, none => True
  | some .int, some (.int _) => True
  | some .boolean, some (.int v) => narrow .boolean (.int v) = .int v
  | some .long, some (.long _) => True
  | _, _ => False
theorem rok_cases {mi : Nat} {r : Option Value} (h : rok mi r) : (r = none ∧ mR mi = none) ∨ (∃ v, r = some (.int v) ∧ mR mi = some .int) ∨ (∃ v, r = some (.int v) ∧ mR mi = some .boolean ∧ narrow .boolean (.int v) = .int v) ∨ ∃ v, r = some (.long v) ∧ mR mi = some .long := by
  unfold rok at h
  split at h
  · rename_i h1; exact Or.inl ⟨rfl, h1⟩
  · rename_i v h1; exact Or.inr (Or.inl ⟨v, rfl, h1⟩)
  · rename_i v h1; exact Or.inr (Or.inr (Or.inl ⟨v, rfl, h1, h⟩))
  · rename_i v h1; exact Or.inr (Or.inr (Or.inr ⟨v, rfl, h1⟩))
  · exact h.elim
def rdc (b : ByteArray) (pc : Nat) (r : Option Value) : Prop := match r with
  | none => decode b pc = .ok (.return_, 1)
  | some (.int _) => decode b pc = .ok (.ireturn, 1)
  | some (.long _) => decode b pc = .ok (.lreturn, 1)
  | _ => False
def QU (E : Ev) (mi : Nat) (Q : Qt) (A : Nat → Prop) : Array Value → State → Outcome → State → Prop := fun _ st oc t => (∃ (r : Option Value) (G' : Gt), oc = .returned r ∧ rok mi r ∧ Q r G' ∧ va_P E.1 classes (ws E G') t.heap ∧ va_D A (ws E G')) ∧ va_F A st t
/-- A METHOD'S CONTRACT: with these values, from G, it comes to Q -/
def con (X : Xt) (mi : Nat) (av : List Value) (G : Gt) (Q : Qt) : Prop := ∀ (E : Ev) (l : Launch) (sz : Nat), Met l (mY mi) (cW mi :: gw) { frames := mF mi, cells := 0, slots := 0, locals := mLo mi } (va_Pc (cS E av) (Wd X E sz G)) (QU E mi Q (Ao E sz)) 0 0 (Ao E sz)
def FX (X : Xt) (E : Ev) (mi : Nat) (p : Program) (R : Room) (s : State) (m : MethodId) (args : Array Value) (c : Code) (A : Nat → Prop) (cells slots : Nat) : Prop :=
  (p.tables.exec = Jvm.exec ∧ c.code = mB mi ∧ c.maxLocals = mL mi ∧ s.vm.findClass (cN (mO mi)) = some m.cls) ∧ (∀ w ∈ gw, w.before args s = true) ∧ (∀ q ∈ nls, va_Nw (nW q) s) ∧ va_K E.1 classes (tys E) s ∧ (∀ q, s.heap.size ≤ q → A q) ∧ XT X E A s s.heap ∧ (mF mi ≤ R.frames ∧ mLo mi ≤ R.locals ∧ cells ≤ R.cells ∧ slots ≤ R.slots)
def HR (E : Ev) (mi : Nat) (p : Program) (l : Launch) (e : Env) (R : Room) (s : State) (m : MethodId) (args : Array Value) (below : List Frame) (meth : Method) (c : Code) (A : Nat → Prop) (cells slots : Nat) (Z : State → Prop) (Q : Qt) : Prop :=
  ∀ (r : Option Value) (G' : Gt) (H' : Heap) (locs' : List Loc) (pc' : Nat) (ls' : Array Slot), Q r G' → rok mi r → rdc (mB mi) pc' r → va_P E.1 classes (ws E G') H' → va_D A (ws E G') → va_S A s.heap H' locs' → W p l e R s m args below meth c H' locs' cells slots Z (F0 m pc' ls' r.toList)
/-- at pc, with these locals, this stack, G: the method comes to Q -/
def wp (X : Xt) (mi pc : Nat) (L : Lt) (st : List Value) (G : Gt) (Q : Qt) : Prop :=
  ∀ (E : Ev) (p : Program) (l : Launch) (e : Env) (R : Room) (s : State) (m : MethodId) (args : Array Value) (below : List Frame) (meth : Method) (c : Code) (A : Nat → Prop) (H : Heap) (locs : List Loc) (cells slots : Nat) (ls : Array Slot) (Z : State → Prop),
    FX X E mi p R s m args c A cells slots → HR E mi p l e R s m args below meth c A cells slots Z Q →
    va_P E.1 classes (ws E G) H → va_D A (ws E G) → va_S A s.heap H locs → lv_has ls (mL mi) (cL E L) →
    W p l e R s m args below meth c H locs cells slots Z (F0 m pc ls (cS E st))
theorem lv_args_cv (E : Ev) : ∀ (i : Nat) (vs : List Value), lv_args i (cS E vs) = cL E (lv_args i vs)
  | _, [] => rfl
  | i, v :: vs => by
    show (i, cv E v) :: lv_args (if (cv E v).category = 2 then i + 2 else i + 1) (cS E vs) = (i, cv E v) :: cL E (lv_args (if v.category = 2 then i + 2 else i + 1) vs)
    rw [cv_cat, lv_args_cv E _ vs]
theorem lg_sl_cv (E : Ev) : ∀ (vs : List Value), (lg_sl (cS E vs)).length = (lg_sl vs).length
  | [] => rfl
  | v :: vs => by
    have h := lg_sl_cv E vs
    unfold lg_sl cS at *
    rw [List.map_cons, List.flatMap_cons, List.flatMap_cons, List.length_append, List.length_append, h, cv_cat]
    by_cases hc : v.category = 2
    · rw [if_pos hc, if_pos hc]; rfl
    · rw [if_neg hc, if_neg hc]; rfl
set_option maxHeartbeats 4000000 in
/-- a contract out of the walk of the body -/
theorem con_of {X : Xt} {mi : Nat} {av : List Value} {G : Gt} {Q : Qt} (hy : Jvm.plainName (mY mi).cls = true) (hN : cN (mO mi) = (mY mi).cls) (hl : (lg_sl av).length ≤ mL mi) (h : wp X mi 0 (lv_args 0 av) [] G Q) : con X mi av G Q := by
  intro E l sz
  refine Met.ofW (cc := mB mi) (maxL := mL mi) (ret := mR mi) hy rfl ?_
  intro p e s m args below meth c s₁ B hml hv
  obtain ⟨rfl, hsz, hP, hK, hD, hn, hX⟩ := hv
  have hts := atoms_spec (ws := cW mi :: gw) B.pre
  have hown : s.vm.findClass (mY mi).cls = some m.cls := findClass_of_methodNamed B.named
  have hlocks := B.notSynchronized
  have hr := B.returns
  subst hsz
  have hS : va_S (Ao E s.heap.size) s.heap s.heap [] := va_S.rf
  have hlv := lv_entry (cS E av) (n := mL mi) (by rw [lg_sl_cv]; exact hl)
  rw [lg_entry_eq]
  refine h E p l e _ s m _ below meth c (Ao E s.heap.size) s.heap [] 0 0 _ _ ⟨⟨B.exec, B.bytes, hml, by rw [hN]; exact hown⟩, fun w hw => hts w (List.mem_cons_of_mem _ hw), hn, hK, fun q hq => Or.inr hq, hX, ⟨Nat.le_refl _, Nat.le_refl _, Nat.zero_le _, Nat.zero_le _⟩⟩ ?_ hP hD hS (by rw [← lv_args_cv]; exact hlv)
  intro r G' H' locs' pc' ls' hQ hk hd hP' hD' hS'
  rcases rok_cases hk with ⟨rfl, hm⟩ | ⟨v, rfl, hm⟩ | ⟨v, rfl, hm, hnv⟩ | ⟨v, rfl, hm⟩
  · exact W.vret B.exec B.bytes (hr.trans hm) (fun t ht hW => ⟨⟨none, G', rfl, hk, hQ, by rw [ht]; exact hP', hD'⟩, hS'.F ht⟩) hS'.2.2 hd
  · exact W.iret (v := v) B.exec B.bytes (hr.trans hm) (fun t ht hW => ⟨⟨some (.int v), G', rfl, hk, hQ, by rw [ht]; exact hP', hD'⟩, hS'.F ht⟩) hS'.2.2 hd
  · exact W.zret (v := v) B.exec B.bytes (hr.trans hm) hnv (fun t ht hW => ⟨⟨some (.int v), G', rfl, hk, hQ, by rw [ht]; exact hP', hD'⟩, hS'.F ht⟩) hS'.2.2 hd
  · exact W.lret (v := v) B.exec B.bytes (hr.trans hm) (fun t ht hW => ⟨⟨some (.long v), G', rfl, hk, hQ, by rw [ht]; exact hP', hD'⟩, hS'.F ht⟩) hS'.2.2 hd
