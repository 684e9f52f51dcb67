/-! what the tables say, as a program looks it up -/
noncomputable def mG (i : Nat) : Mt := mT.getD i (⟨"", "", ""⟩, ByteArray.empty, 0, none, 0, 0, 0, 0)
noncomputable def mY (i : Nat) : MethodName := (mG i).1
noncomputable def mB (i : Nat) : ByteArray := (mG i).2.1
noncomputable def mL (i : Nat) : Nat := (mG i).2.2.1
noncomputable def mR (i : Nat) : Option FieldType := (mG i).2.2.2.1
noncomputable def mF (i : Nat) : Nat := (mG i).2.2.2.2.1
noncomputable def mLo (i : Nat) : Nat := (mG i).2.2.2.2.2.1
noncomputable def mK (i : Nat) : Nat := (mG i).2.2.2.2.2.2.1
noncomputable def mO (i : Nat) : Nat := (mG i).2.2.2.2.2.2.2
noncomputable def iT (i : Nat) : List En := iTs.getD i []
def cN (o : Nat) : String := cNs.getD o ""
def gw : List Cond := lw_tbl.filter goodWord
/-- one list stands in another, in its order -/
def subL : List Cond → List Cond → Bool
  | _, [] => true
  | [], _ :: _ => false
  | b :: r, a :: l => match decide (a = b) with
    | true => subL r l
    | false => subL r (a :: l)
theorem subL_mem : ∀ (r l : List Cond), subL r l = true → ∀ w ∈ l, w ∈ r
  | _, [], _, w, hw => by cases hw
  | [], _ :: _, h, _, _ => by simp [subL] at h
  | b :: r, a :: l, h, w, hw => by
    unfold subL at h
    by_cases e : a = b
    · rw [decide_eq_true e] at h
      rcases List.mem_cons.mp hw with q | q
      · rw [q, e]; exact List.mem_cons_self
      · exact List.mem_cons_of_mem _ (subL_mem r l h w q)
    · rw [decide_eq_false e] at h
      exact List.mem_cons_of_mem _ (subL_mem r (a :: l) h w hw)
def inA (l : List Cond) : Bool := subL lw_tbl l && l.all goodWord
theorem inA_gw {l : List Cond} (h : inA l = true) {w : Cond} (hw : w ∈ l) : w ∈ gw := by
  simp only [inA, Bool.and_eq_true] at h
  exact List.mem_filter.mpr ⟨subL_mem _ _ h.1 w hw, List.all_eq_true.mp h.2 w hw⟩
theorem gw_tbl {w : Cond} (h : w ∈ gw) : w ∈ lw_tbl := (List.mem_filter.mp h).1
theorem gw_good {w : Cond} (h : w ∈ gw) : goodWord w = true := (List.mem_filter.mp h).2
noncomputable def cW (i : Nat) : Cond := .code (mY i) (mB i) (mL i) (mR i)
def fW (q : Nat × Nat × Nat × Nat) : Cond := match classes[q.2.2.1]? with
  | some (C, T, _) => .fieldLink (cN q.1) q.2.1 C (T q.2.2.2).2.1 (T q.2.2.2).2.2.1
  | none => .initialized ""
def uW (q : Nat × Nat) : Cond := match classes[q.1]? with
  | some (C, T, _) => u_lay C T q.2
  | none => .initialized ""
noncomputable def nW (q : Nat × Nat × Nat) : Cond := .methodLinkNest (cN q.1) q.2.1 (mY q.2.2) "StoneWorks"
noncomputable def lW (q : Nat × Nat × Nat) : Cond := .methodLink (cN q.1) q.2.1 (mY q.2.2)
def sY (a : Nat) : MethodName := match a with
  | 900 => Lib.Math.max.name
  | 901 => Lib.Math.min.name
  | 902 => Lib.Math.abs.name
  | _ => arraycopyName
def sW (q : Nat × Nat × Nat) : Cond := .methodLink (cN q.1) q.2.1 (sY q.2.2)
def gN (a : Nat) : String := match a with
  | 44 => "LEAST"
  | _ => "MOST"
def gW (q : Nat × Nat × Nat) : Cond := .fieldLink (cN q.1) q.2.1 "StoneWorks$Wall" (gN q.2.2) "[I"
def isC (w : Cond) : Option Cond := match w with
  | .code y b l r => if y.name = "<init>" then none else if y.cls = "java/lang/Math" then none else some (.code y b l r)
  | _ => none
set_option maxRecDepth 100000 in
theorem ordC_eq : lw_tbl.filterMap isC = ordC.map cW := by rfl
theorem isC_some {w v : Cond} (h : isC w = some v) : w = v := by
  unfold isC at h
  split at h
  · split at h
    · cases h
    · split at h
      · cases h
      · exact Option.some.inj h
  · cases h
theorem ordC_gw {i : Nat} (h : i ∈ ordC) : cW i ∈ gw := by
  have h1 : cW i ∈ lw_tbl.filterMap isC := by rw [ordC_eq]; exact List.mem_map_of_mem h
  obtain ⟨w, hw, e⟩ := List.mem_filterMap.mp h1
  rw [isC_some e] at hw
  exact List.mem_filter.mpr ⟨hw, rfl⟩
theorem ordS_ok : inA (ordS.map fun i => .static (mY i)) = true := by decide +kernel
theorem ordI_ok : inA (ordI.map fun i => .instanceMethod (mY i)) = true := by decide +kernel
theorem ordX_ok : inA (ordX.map fun i => .selects (mY i).cls (mY i) (mY i)) = true := by decide +kernel
theorem ordN_ok : inA (ordN.map fun i => .initialized (cN i)) = true := by decide +kernel
theorem ordU_ok : inA (ordU.map uW) = true := by decide +kernel
theorem fls_ok : inA (fls.map fW) = true := by decide +kernel
theorem mls_ok : inA (mls.map lW) = true := by decide +kernel
theorem nls_ok : subL lw_tbl (nls.map nW) = true := by decide +kernel
theorem sls_ok : inA (sls.map sW) = true := by decide +kernel
theorem gls_ok : inA (gls.map gW) = true := by decide +kernel
theorem cIs_ok : inA (cIs.map fun q => .constant (cN q.1) q.2.1 q.2.2) = true := by decide +kernel
theorem cLs_ok : inA (cLs.map fun q => .constantLong (cN q.1) q.2.1 q.2.2) = true := by decide +kernel
