/-! constructors: words, bytes -/
theorem tw {w : Cond} (i : Nat) (h : tables_1[i]? = some w) (hg : goodWord w = true) : w ∈ gw := List.mem_filter.mpr ⟨List.mem_append_right _ (List.mem_of_getElem? h), hg⟩
theorem fl_in (q : Nat × Nat × Nat × Nat) (h : q ∈ fls) : fW q ∈ gw := inA_gw fls_ok (List.mem_map.mpr ⟨_, h, rfl⟩)
theorem uw {q ci : Nat} {fs : List (Option Nat)} {o : Option Nat} {C : String} {T : u_T} {N : Nat} (h : lay[q]? = some (0, ci, fs)) (hk : fs[0]? = some o) (hc : classes[ci]? = some (C, T, N)) : ∀ w ∈ u_ws C T N, w ∈ gw := by
  obtain ⟨C', T', N', h1, -, h2, -⟩ := lay_cls h hk
  rw [hc] at h1
  cases h1
  exact h2
abbrev tyc (cI cZ : ClassId) : List (ClassId × FieldType) := [(cI, .int), (cZ, .boolean)]
set_option maxRecDepth 100000 in
theorem w_oi : Cond.instanceMethod objectInit ∈ gw := tw 20 rfl rfl
set_option maxRecDepth 100000 in
theorem w_oc : Cond.code objectInit ⟨#[0xb1]⟩ 1 none ∈ gw := tw 21 rfl rfl
set_option maxRecDepth 100000 in
theorem w_aI : Cond.arrayClass .int ∈ gw := tw 41 rfl rfl
set_option maxRecDepth 100000 in
theorem w_aZ : Cond.arrayClass .boolean ∈ gw := tw 102 rfl rfl
def yk_Hours : MethodName := ⟨"StoneWorks$Hours", "<init>", "()V"⟩
def kW_Hours : Cond := .code yk_Hours prog_4_method_1_code 1 none
set_option maxRecDepth 100000 in
theorem kw_Hours : kW_Hours ∈ gw := tw 107 rfl rfl
set_option maxRecDepth 100000 in
theorem ki_Hours : Cond.instanceMethod yk_Hours ∈ gw := tw 106 rfl rfl
set_option maxRecDepth 100000 in
theorem ko_Hours : Cond.methodLink "StoneWorks$Hours" 3 objectInit ∈ gw := tw 108 rfl rfl
set_option maxRecDepth 100000 in
theorem kn_Hours : Cond.instantiable "StoneWorks$Hours" 3 ∈ gw := tw 104 rfl rfl
set_option maxRecDepth 100000 in
theorem kz_Hours : Cond.initialized "StoneWorks$Hours" ∈ gw := tw 7 rfl rfl
set_option maxRecDepth 100000 in
theorem kc_Hours : Cond.classLink "StoneWorks" 37 "StoneWorks$Hours" ∈ gw := tw 103 rfl rfl
set_option maxRecDepth 100000 in
theorem km_Hours : Cond.methodLinkNest "StoneWorks" 39 yk_Hours "StoneWorks" ∈ lw_tbl := List.mem_append_right _ (List.mem_of_getElem? (i := 105) rfl)
def yk_Pile : MethodName := ⟨"StoneWorks$Pile", "<init>", "()V"⟩
def kW_Pile : Cond := .code yk_Pile prog_5_method_1_code 1 none
set_option maxRecDepth 100000 in
theorem kw_Pile : kW_Pile ∈ gw := tw 87 rfl rfl
set_option maxRecDepth 100000 in
theorem ki_Pile : Cond.instanceMethod yk_Pile ∈ gw := tw 86 rfl rfl
set_option maxRecDepth 100000 in
theorem ko_Pile : Cond.methodLink "StoneWorks$Pile" 3 objectInit ∈ gw := tw 88 rfl rfl
set_option maxRecDepth 100000 in
theorem kn_Pile : Cond.instantiable "StoneWorks$Pile" 4 ∈ gw := tw 84 rfl rfl
set_option maxRecDepth 100000 in
theorem kz_Pile : Cond.initialized "StoneWorks$Pile" ∈ gw := tw 6 rfl rfl
set_option maxRecDepth 100000 in
theorem kc_Pile : Cond.classLink "StoneWorks" 30 "StoneWorks$Pile" ∈ gw := tw 83 rfl rfl
set_option maxRecDepth 100000 in
theorem km_Pile : Cond.methodLinkNest "StoneWorks" 32 yk_Pile "StoneWorks" ∈ lw_tbl := List.mem_append_right _ (List.mem_of_getElem? (i := 85) rfl)
def yk_Quarry : MethodName := ⟨"StoneWorks$Quarry", "<init>", "()V"⟩
def kW_Quarry : Cond := .code yk_Quarry prog_6_method_1_code 1 none
set_option maxRecDepth 100000 in
theorem kw_Quarry : kW_Quarry ∈ gw := tw 65 rfl rfl
set_option maxRecDepth 100000 in
theorem ki_Quarry : Cond.instanceMethod yk_Quarry ∈ gw := tw 64 rfl rfl
set_option maxRecDepth 100000 in
theorem ko_Quarry : Cond.methodLink "StoneWorks$Quarry" 3 objectInit ∈ gw := tw 66 rfl rfl
set_option maxRecDepth 100000 in
theorem kn_Quarry : Cond.instantiable "StoneWorks$Quarry" 5 ∈ gw := tw 62 rfl rfl
set_option maxRecDepth 100000 in
theorem kz_Quarry : Cond.initialized "StoneWorks$Quarry" ∈ gw := tw 5 rfl rfl
set_option maxRecDepth 100000 in
theorem kc_Quarry : Cond.classLink "StoneWorks" 23 "StoneWorks$Quarry" ∈ gw := tw 61 rfl rfl
set_option maxRecDepth 100000 in
theorem km_Quarry : Cond.methodLinkNest "StoneWorks" 25 yk_Quarry "StoneWorks" ∈ lw_tbl := List.mem_append_right _ (List.mem_of_getElem? (i := 63) rfl)
def yk_Sheets : MethodName := ⟨"StoneWorks$Sheets", "<init>", "()V"⟩
def kW_Sheets : Cond := .code yk_Sheets prog_7_method_1_code 1 none
set_option maxRecDepth 100000 in
theorem kw_Sheets : kW_Sheets ∈ gw := tw 26 rfl rfl
set_option maxRecDepth 100000 in
theorem ki_Sheets : Cond.instanceMethod yk_Sheets ∈ gw := tw 25 rfl rfl
set_option maxRecDepth 100000 in
theorem ko_Sheets : Cond.methodLink "StoneWorks$Sheets" 3 objectInit ∈ gw := tw 27 rfl rfl
set_option maxRecDepth 100000 in
theorem kn_Sheets : Cond.instantiable "StoneWorks$Sheets" 3 ∈ gw := tw 23 rfl rfl
set_option maxRecDepth 100000 in
theorem kz_Sheets : Cond.initialized "StoneWorks$Sheets" ∈ gw := tw 2 rfl rfl
set_option maxRecDepth 100000 in
theorem kc_Sheets : Cond.classLink "StoneWorks" 7 "StoneWorks$Sheets" ∈ gw := tw 22 rfl rfl
set_option maxRecDepth 100000 in
theorem km_Sheets : Cond.methodLink "StoneWorks" 9 yk_Sheets ∈ gw := tw 24 rfl rfl
def yk_Surveys : MethodName := ⟨"StoneWorks$Surveys", "<init>", "()V"⟩
def kW_Surveys : Cond := .code yk_Surveys prog_8_method_1_code 1 none
set_option maxRecDepth 100000 in
theorem kw_Surveys : kW_Surveys ∈ gw := tw 123 rfl rfl
set_option maxRecDepth 100000 in
theorem ki_Surveys : Cond.instanceMethod yk_Surveys ∈ gw := tw 122 rfl rfl
set_option maxRecDepth 100000 in
theorem ko_Surveys : Cond.methodLink "StoneWorks$Surveys" 3 objectInit ∈ gw := tw 124 rfl rfl
set_option maxRecDepth 100000 in
theorem kn_Surveys : Cond.instantiable "StoneWorks$Surveys" 7 ∈ gw := tw 120 rfl rfl
set_option maxRecDepth 100000 in
theorem kz_Surveys : Cond.initialized "StoneWorks$Surveys" ∈ gw := tw 8 rfl rfl
set_option maxRecDepth 100000 in
theorem kc_Surveys : Cond.classLink "StoneWorks" 44 "StoneWorks$Surveys" ∈ gw := tw 119 rfl rfl
set_option maxRecDepth 100000 in
theorem km_Surveys : Cond.methodLinkNest "StoneWorks" 46 yk_Surveys "StoneWorks" ∈ lw_tbl := List.mem_append_right _ (List.mem_of_getElem? (i := 121) rfl)
def yk_Wall : MethodName := ⟨"StoneWorks$Wall", "<init>", "()V"⟩
def kW_Wall : Cond := .code yk_Wall prog_9_method_1_code 1 none
set_option maxRecDepth 100000 in
theorem kw_Wall : kW_Wall ∈ gw := tw 46 rfl rfl
set_option maxRecDepth 100000 in
theorem ki_Wall : Cond.instanceMethod yk_Wall ∈ gw := tw 45 rfl rfl
set_option maxRecDepth 100000 in
theorem ko_Wall : Cond.methodLink "StoneWorks$Wall" 3 objectInit ∈ gw := tw 47 rfl rfl
set_option maxRecDepth 100000 in
theorem kn_Wall : Cond.instantiable "StoneWorks$Wall" 4 ∈ gw := tw 43 rfl rfl
set_option maxRecDepth 100000 in
theorem kz_Wall : Cond.initialized "StoneWorks$Wall" ∈ gw := tw 4 rfl rfl
set_option maxRecDepth 100000 in
theorem kc_Wall : Cond.classLink "StoneWorks" 16 "StoneWorks$Wall" ∈ gw := tw 42 rfl rfl
set_option maxRecDepth 100000 in
theorem km_Wall : Cond.methodLinkNest "StoneWorks" 18 yk_Wall "StoneWorks" ∈ lw_tbl := List.mem_append_right _ (List.mem_of_getElem? (i := 44) rfl)
def yk_Asks : MethodName := ⟨"StoneWorks$Asks", "<init>", "()V"⟩
def kW_Asks : Cond := .code yk_Asks prog_2_method_1_code 1 none
set_option maxRecDepth 100000 in
theorem kw_Asks : kW_Asks ∈ gw := tw 151 rfl rfl
set_option maxRecDepth 100000 in
theorem ki_Asks : Cond.instanceMethod yk_Asks ∈ gw := tw 150 rfl rfl
set_option maxRecDepth 100000 in
theorem ko_Asks : Cond.methodLink "StoneWorks$Asks" 3 objectInit ∈ gw := tw 152 rfl rfl
set_option maxRecDepth 100000 in
theorem kn_Asks : Cond.instantiable "StoneWorks$Asks" 2 ∈ gw := tw 148 rfl rfl
set_option maxRecDepth 100000 in
theorem kz_Asks : Cond.initialized "StoneWorks$Asks" ∈ gw := tw 9 rfl rfl
set_option maxRecDepth 100000 in
theorem kc_Asks : Cond.classLink "StoneWorks" 51 "StoneWorks$Asks" ∈ gw := tw 147 rfl rfl
set_option maxRecDepth 100000 in
theorem km_Asks : Cond.methodLinkNest "StoneWorks" 53 yk_Asks "StoneWorks" ∈ lw_tbl := List.mem_append_right _ (List.mem_of_getElem? (i := 149) rfl)
def yk_Model : MethodName := ⟨"StoneWorksModel", "<init>", "()V"⟩
def kW_Model : Cond := .code yk_Model prog_11_method_1_code 1 none
set_option maxRecDepth 100000 in
theorem kw_Model : kW_Model ∈ gw := tw 698 rfl rfl
set_option maxRecDepth 100000 in
theorem ki_Model : Cond.instanceMethod yk_Model ∈ gw := tw 697 rfl rfl
set_option maxRecDepth 100000 in
theorem ko_Model : Cond.methodLink "StoneWorksModel" 1 objectInit ∈ gw := tw 699 rfl rfl
set_option maxRecDepth 100000 in
theorem kn_Model : Cond.instantiable "StoneWorksModel" 21 ∈ gw := tw 695 rfl rfl
set_option maxRecDepth 100000 in
theorem kz_Model : Cond.initialized "StoneWorksModel" ∈ gw := tw 10 rfl rfl
set_option maxRecDepth 100000 in
theorem kc_Model : Cond.classLink "StoneWorksLaw" 10 "StoneWorksModel" ∈ gw := tw 694 rfl rfl
set_option maxRecDepth 100000 in
theorem km_Model : Cond.methodLink "StoneWorksLaw" 12 yk_Model ∈ gw := tw 696 rfl rfl
def yk_SW : MethodName := ⟨"StoneWorks", "<init>", "()V"⟩
def kW_SW : Cond := .code yk_SW prog_1_method_1_code 1 none
set_option maxRecDepth 100000 in
theorem kw_SW : kW_SW ∈ gw := tw 18 rfl rfl
set_option maxRecDepth 100000 in
theorem ki_SW : Cond.instanceMethod yk_SW ∈ gw := tw 17 rfl rfl
set_option maxRecDepth 100000 in
theorem ko_SW : Cond.methodLink "StoneWorks" 1 objectInit ∈ gw := tw 19 rfl rfl
set_option maxRecDepth 100000 in
theorem kn_SW : Cond.instantiable "StoneWorks" 8 ∈ gw := tw 15 rfl rfl
set_option maxRecDepth 100000 in
theorem kz_SW : Cond.initialized "StoneWorks" ∈ gw := tw 1 rfl rfl
set_option maxRecDepth 100000 in
theorem kc_SW : Cond.classLink "StoneWorksLaw" 7 "StoneWorks" ∈ gw := tw 14 rfl rfl
set_option maxRecDepth 100000 in
theorem km_SW : Cond.methodLink "StoneWorksLaw" 9 yk_SW ∈ gw := tw 16 rfl rfl
set_option maxRecDepth 100000 in
theorem km_fill : Cond.methodLink "StoneWorks$Sheets" 21 (mY 0) ∈ gw := tw 28 rfl rfl
theorem dq_Hours_0 : decode prog_4_method_1_code 0 = .ok (.aload_n 0, 1) := by decide +kernel
theorem dq_Hours_1 : decode prog_4_method_1_code 1 = .ok (.invokespecial 3, 3) := by decide +kernel
theorem dq_Hours_4 : decode prog_4_method_1_code 4 = .ok (.aload_n 0, 1) := by decide +kernel
theorem dq_Hours_5 : decode prog_4_method_1_code 5 = .ok (.bipush 48, 2) := by decide +kernel
theorem dq_Hours_7 : decode prog_4_method_1_code 7 = .ok (.newarray .int, 2) := by decide +kernel
theorem dq_Hours_9 : decode prog_4_method_1_code 9 = .ok (.putfield 11, 3) := by decide +kernel
theorem dq_Hours_12 : decode prog_4_method_1_code 12 = .ok (.aload_n 0, 1) := by decide +kernel
theorem dq_Hours_13 : decode prog_4_method_1_code 13 = .ok (.bipush 48, 2) := by decide +kernel
theorem dq_Hours_15 : decode prog_4_method_1_code 15 = .ok (.newarray .int, 2) := by decide +kernel
theorem dq_Hours_17 : decode prog_4_method_1_code 17 = .ok (.putfield 15, 3) := by decide +kernel
theorem dq_Hours_20 : decode prog_4_method_1_code 20 = .ok (.aload_n 0, 1) := by decide +kernel
theorem dq_Hours_21 : decode prog_4_method_1_code 21 = .ok (.iconst 0, 1) := by decide +kernel
theorem dq_Hours_22 : decode prog_4_method_1_code 22 = .ok (.putfield 18, 3) := by decide +kernel
theorem dq_Hours_25 : decode prog_4_method_1_code 25 = .ok (.return_, 1) := by decide +kernel
theorem dq_Pile_0 : decode prog_5_method_1_code 0 = .ok (.aload_n 0, 1) := by decide +kernel
theorem dq_Pile_1 : decode prog_5_method_1_code 1 = .ok (.invokespecial 3, 3) := by decide +kernel
theorem dq_Pile_4 : decode prog_5_method_1_code 4 = .ok (.aload_n 0, 1) := by decide +kernel
theorem dq_Pile_5 : decode prog_5_method_1_code 5 = .ok (.bipush 96, 2) := by decide +kernel
theorem dq_Pile_7 : decode prog_5_method_1_code 7 = .ok (.newarray .boolean, 2) := by decide +kernel
theorem dq_Pile_9 : decode prog_5_method_1_code 9 = .ok (.putfield 11, 3) := by decide +kernel
theorem dq_Pile_12 : decode prog_5_method_1_code 12 = .ok (.aload_n 0, 1) := by decide +kernel
theorem dq_Pile_13 : decode prog_5_method_1_code 13 = .ok (.bipush 96, 2) := by decide +kernel
theorem dq_Pile_15 : decode prog_5_method_1_code 15 = .ok (.newarray .boolean, 2) := by decide +kernel
theorem dq_Pile_17 : decode prog_5_method_1_code 17 = .ok (.putfield 15, 3) := by decide +kernel
theorem dq_Pile_20 : decode prog_5_method_1_code 20 = .ok (.aload_n 0, 1) := by decide +kernel
theorem dq_Pile_21 : decode prog_5_method_1_code 21 = .ok (.bipush 96, 2) := by decide +kernel
theorem dq_Pile_23 : decode prog_5_method_1_code 23 = .ok (.newarray .int, 2) := by decide +kernel
theorem dq_Pile_25 : decode prog_5_method_1_code 25 = .ok (.putfield 18, 3) := by decide +kernel
theorem dq_Pile_28 : decode prog_5_method_1_code 28 = .ok (.aload_n 0, 1) := by decide +kernel
theorem dq_Pile_29 : decode prog_5_method_1_code 29 = .ok (.iconst 0, 1) := by decide +kernel
theorem dq_Pile_30 : decode prog_5_method_1_code 30 = .ok (.putfield 22, 3) := by decide +kernel
theorem dq_Pile_33 : decode prog_5_method_1_code 33 = .ok (.return_, 1) := by decide +kernel
theorem dq_Quarry_0 : decode prog_6_method_1_code 0 = .ok (.aload_n 0, 1) := by decide +kernel
theorem dq_Quarry_1 : decode prog_6_method_1_code 1 = .ok (.invokespecial 3, 3) := by decide +kernel
theorem dq_Quarry_4 : decode prog_6_method_1_code 4 = .ok (.aload_n 0, 1) := by decide +kernel
theorem dq_Quarry_5 : decode prog_6_method_1_code 5 = .ok (.iconst 4, 1) := by decide +kernel
theorem dq_Quarry_6 : decode prog_6_method_1_code 6 = .ok (.newarray .int, 2) := by decide +kernel
theorem dq_Quarry_8 : decode prog_6_method_1_code 8 = .ok (.putfield 9, 3) := by decide +kernel
theorem dq_Quarry_11 : decode prog_6_method_1_code 11 = .ok (.aload_n 0, 1) := by decide +kernel
theorem dq_Quarry_12 : decode prog_6_method_1_code 12 = .ok (.iconst 3, 1) := by decide +kernel
theorem dq_Quarry_13 : decode prog_6_method_1_code 13 = .ok (.newarray .int, 2) := by decide +kernel
theorem dq_Quarry_15 : decode prog_6_method_1_code 15 = .ok (.putfield 13, 3) := by decide +kernel
theorem dq_Quarry_18 : decode prog_6_method_1_code 18 = .ok (.aload_n 0, 1) := by decide +kernel
theorem dq_Quarry_19 : decode prog_6_method_1_code 19 = .ok (.iconst 4, 1) := by decide +kernel
theorem dq_Quarry_20 : decode prog_6_method_1_code 20 = .ok (.newarray .int, 2) := by decide +kernel
theorem dq_Quarry_22 : decode prog_6_method_1_code 22 = .ok (.putfield 16, 3) := by decide +kernel
theorem dq_Quarry_25 : decode prog_6_method_1_code 25 = .ok (.aload_n 0, 1) := by decide +kernel
theorem dq_Quarry_26 : decode prog_6_method_1_code 26 = .ok (.bipush 12, 2) := by decide +kernel
theorem dq_Quarry_28 : decode prog_6_method_1_code 28 = .ok (.newarray .int, 2) := by decide +kernel
theorem dq_Quarry_30 : decode prog_6_method_1_code 30 = .ok (.putfield 19, 3) := by decide +kernel
theorem dq_Quarry_33 : decode prog_6_method_1_code 33 = .ok (.aload_n 0, 1) := by decide +kernel
theorem dq_Quarry_34 : decode prog_6_method_1_code 34 = .ok (.iconst 0, 1) := by decide +kernel
theorem dq_Quarry_35 : decode prog_6_method_1_code 35 = .ok (.putfield 22, 3) := by decide +kernel
theorem dq_Quarry_38 : decode prog_6_method_1_code 38 = .ok (.return_, 1) := by decide +kernel
theorem dq_Sheets_0 : decode prog_7_method_1_code 0 = .ok (.aload_n 0, 1) := by decide +kernel
theorem dq_Sheets_1 : decode prog_7_method_1_code 1 = .ok (.invokespecial 3, 3) := by decide +kernel
theorem dq_Sheets_4 : decode prog_7_method_1_code 4 = .ok (.aload_n 0, 1) := by decide +kernel
theorem dq_Sheets_5 : decode prog_7_method_1_code 5 = .ok (.sipush 800, 3) := by decide +kernel
theorem dq_Sheets_8 : decode prog_7_method_1_code 8 = .ok (.newarray .int, 2) := by decide +kernel
theorem dq_Sheets_10 : decode prog_7_method_1_code 10 = .ok (.putfield 11, 3) := by decide +kernel
theorem dq_Sheets_13 : decode prog_7_method_1_code 13 = .ok (.aload_n 0, 1) := by decide +kernel
theorem dq_Sheets_14 : decode prog_7_method_1_code 14 = .ok (.bipush 8, 2) := by decide +kernel
theorem dq_Sheets_16 : decode prog_7_method_1_code 16 = .ok (.newarray .int, 2) := by decide +kernel
theorem dq_Sheets_18 : decode prog_7_method_1_code 18 = .ok (.putfield 15, 3) := by decide +kernel
theorem dq_Sheets_21 : decode prog_7_method_1_code 21 = .ok (.aload_n 0, 1) := by decide +kernel
theorem dq_Sheets_22 : decode prog_7_method_1_code 22 = .ok (.bipush 8, 2) := by decide +kernel
theorem dq_Sheets_24 : decode prog_7_method_1_code 24 = .ok (.newarray .int, 2) := by decide +kernel
theorem dq_Sheets_26 : decode prog_7_method_1_code 26 = .ok (.putfield 18, 3) := by decide +kernel
theorem dq_Sheets_29 : decode prog_7_method_1_code 29 = .ok (.aload_n 0, 1) := by decide +kernel
theorem dq_Sheets_30 : decode prog_7_method_1_code 30 = .ok (.getfield 18, 3) := by decide +kernel
theorem dq_Sheets_33 : decode prog_7_method_1_code 33 = .ok (.iconst (-1), 1) := by decide +kernel
theorem dq_Sheets_34 : decode prog_7_method_1_code 34 = .ok (.invokestatic 21, 3) := by decide +kernel
theorem dq_Sheets_37 : decode prog_7_method_1_code 37 = .ok (.return_, 1) := by decide +kernel
theorem dq_Surveys_0 : decode prog_8_method_1_code 0 = .ok (.aload_n 0, 1) := by decide +kernel
theorem dq_Surveys_1 : decode prog_8_method_1_code 1 = .ok (.invokespecial 3, 3) := by decide +kernel
theorem dq_Surveys_4 : decode prog_8_method_1_code 4 = .ok (.aload_n 0, 1) := by decide +kernel
theorem dq_Surveys_5 : decode prog_8_method_1_code 5 = .ok (.bipush 100, 2) := by decide +kernel
theorem dq_Surveys_7 : decode prog_8_method_1_code 7 = .ok (.newarray .boolean, 2) := by decide +kernel
theorem dq_Surveys_9 : decode prog_8_method_1_code 9 = .ok (.putfield 11, 3) := by decide +kernel
theorem dq_Surveys_12 : decode prog_8_method_1_code 12 = .ok (.aload_n 0, 1) := by decide +kernel
theorem dq_Surveys_13 : decode prog_8_method_1_code 13 = .ok (.bipush 100, 2) := by decide +kernel
theorem dq_Surveys_15 : decode prog_8_method_1_code 15 = .ok (.newarray .int, 2) := by decide +kernel
theorem dq_Surveys_17 : decode prog_8_method_1_code 17 = .ok (.putfield 15, 3) := by decide +kernel
theorem dq_Surveys_20 : decode prog_8_method_1_code 20 = .ok (.aload_n 0, 1) := by decide +kernel
theorem dq_Surveys_21 : decode prog_8_method_1_code 21 = .ok (.iconst 0, 1) := by decide +kernel
theorem dq_Surveys_22 : decode prog_8_method_1_code 22 = .ok (.putfield 19, 3) := by decide +kernel
theorem dq_Surveys_25 : decode prog_8_method_1_code 25 = .ok (.aload_n 0, 1) := by decide +kernel
theorem dq_Surveys_26 : decode prog_8_method_1_code 26 = .ok (.iconst 0, 1) := by decide +kernel
theorem dq_Surveys_27 : decode prog_8_method_1_code 27 = .ok (.putfield 23, 3) := by decide +kernel
theorem dq_Surveys_30 : decode prog_8_method_1_code 30 = .ok (.aload_n 0, 1) := by decide +kernel
theorem dq_Surveys_31 : decode prog_8_method_1_code 31 = .ok (.iconst 0, 1) := by decide +kernel
theorem dq_Surveys_32 : decode prog_8_method_1_code 32 = .ok (.putfield 26, 3) := by decide +kernel
theorem dq_Surveys_35 : decode prog_8_method_1_code 35 = .ok (.aload_n 0, 1) := by decide +kernel
theorem dq_Surveys_36 : decode prog_8_method_1_code 36 = .ok (.iconst 0, 1) := by decide +kernel
theorem dq_Surveys_37 : decode prog_8_method_1_code 37 = .ok (.putfield 29, 3) := by decide +kernel
theorem dq_Surveys_40 : decode prog_8_method_1_code 40 = .ok (.aload_n 0, 1) := by decide +kernel
theorem dq_Surveys_41 : decode prog_8_method_1_code 41 = .ok (.iconst 0, 1) := by decide +kernel
theorem dq_Surveys_42 : decode prog_8_method_1_code 42 = .ok (.putfield 32, 3) := by decide +kernel
theorem dq_Surveys_45 : decode prog_8_method_1_code 45 = .ok (.return_, 1) := by decide +kernel
theorem dq_Wall_0 : decode prog_9_method_1_code 0 = .ok (.aload_n 0, 1) := by decide +kernel
theorem dq_Wall_1 : decode prog_9_method_1_code 1 = .ok (.invokespecial 3, 3) := by decide +kernel
theorem dq_Wall_4 : decode prog_9_method_1_code 4 = .ok (.aload_n 0, 1) := by decide +kernel
theorem dq_Wall_5 : decode prog_9_method_1_code 5 = .ok (.iconst 5, 1) := by decide +kernel
theorem dq_Wall_6 : decode prog_9_method_1_code 6 = .ok (.newarray .int, 2) := by decide +kernel
theorem dq_Wall_8 : decode prog_9_method_1_code 8 = .ok (.dup, 1) := by decide +kernel
theorem dq_Wall_9 : decode prog_9_method_1_code 9 = .ok (.iconst 0, 1) := by decide +kernel
theorem dq_Wall_10 : decode prog_9_method_1_code 10 = .ok (.bipush 20, 2) := by decide +kernel
theorem dq_Wall_12 : decode prog_9_method_1_code 12 = .ok (.iastore, 1) := by decide +kernel
theorem dq_Wall_13 : decode prog_9_method_1_code 13 = .ok (.dup, 1) := by decide +kernel
theorem dq_Wall_14 : decode prog_9_method_1_code 14 = .ok (.iconst 1, 1) := by decide +kernel
theorem dq_Wall_15 : decode prog_9_method_1_code 15 = .ok (.bipush 6, 2) := by decide +kernel
theorem dq_Wall_17 : decode prog_9_method_1_code 17 = .ok (.iastore, 1) := by decide +kernel
theorem dq_Wall_18 : decode prog_9_method_1_code 18 = .ok (.dup, 1) := by decide +kernel
theorem dq_Wall_19 : decode prog_9_method_1_code 19 = .ok (.iconst 2, 1) := by decide +kernel
theorem dq_Wall_20 : decode prog_9_method_1_code 20 = .ok (.bipush 15, 2) := by decide +kernel
theorem dq_Wall_22 : decode prog_9_method_1_code 22 = .ok (.iastore, 1) := by decide +kernel
theorem dq_Wall_23 : decode prog_9_method_1_code 23 = .ok (.dup, 1) := by decide +kernel
theorem dq_Wall_24 : decode prog_9_method_1_code 24 = .ok (.iconst 3, 1) := by decide +kernel
theorem dq_Wall_25 : decode prog_9_method_1_code 25 = .ok (.bipush 10, 2) := by decide +kernel
theorem dq_Wall_27 : decode prog_9_method_1_code 27 = .ok (.iastore, 1) := by decide +kernel
theorem dq_Wall_28 : decode prog_9_method_1_code 28 = .ok (.dup, 1) := by decide +kernel
theorem dq_Wall_29 : decode prog_9_method_1_code 29 = .ok (.iconst 4, 1) := by decide +kernel
theorem dq_Wall_30 : decode prog_9_method_1_code 30 = .ok (.bipush 15, 2) := by decide +kernel
theorem dq_Wall_32 : decode prog_9_method_1_code 32 = .ok (.iastore, 1) := by decide +kernel
theorem dq_Wall_33 : decode prog_9_method_1_code 33 = .ok (.putfield 9, 3) := by decide +kernel
theorem dq_Wall_36 : decode prog_9_method_1_code 36 = .ok (.aload_n 0, 1) := by decide +kernel
theorem dq_Wall_37 : decode prog_9_method_1_code 37 = .ok (.bipush 6, 2) := by decide +kernel
theorem dq_Wall_39 : decode prog_9_method_1_code 39 = .ok (.newarray .int, 2) := by decide +kernel
theorem dq_Wall_41 : decode prog_9_method_1_code 41 = .ok (.putfield 15, 3) := by decide +kernel
theorem dq_Wall_44 : decode prog_9_method_1_code 44 = .ok (.aload_n 0, 1) := by decide +kernel
theorem dq_Wall_45 : decode prog_9_method_1_code 45 = .ok (.bipush 6, 2) := by decide +kernel
theorem dq_Wall_47 : decode prog_9_method_1_code 47 = .ok (.newarray .int, 2) := by decide +kernel
theorem dq_Wall_49 : decode prog_9_method_1_code 49 = .ok (.putfield 18, 3) := by decide +kernel
theorem dq_Wall_52 : decode prog_9_method_1_code 52 = .ok (.aload_n 0, 1) := by decide +kernel
theorem dq_Wall_53 : decode prog_9_method_1_code 53 = .ok (.iconst 0, 1) := by decide +kernel
theorem dq_Wall_54 : decode prog_9_method_1_code 54 = .ok (.putfield 21, 3) := by decide +kernel
theorem dq_Wall_57 : decode prog_9_method_1_code 57 = .ok (.return_, 1) := by decide +kernel
theorem dq_Asks_0 : decode prog_2_method_1_code 0 = .ok (.aload_n 0, 1) := by decide +kernel
theorem dq_Asks_1 : decode prog_2_method_1_code 1 = .ok (.invokespecial 3, 3) := by decide +kernel
theorem dq_Asks_4 : decode prog_2_method_1_code 4 = .ok (.aload_n 0, 1) := by decide +kernel
theorem dq_Asks_5 : decode prog_2_method_1_code 5 = .ok (.bipush 16, 2) := by decide +kernel
theorem dq_Asks_7 : decode prog_2_method_1_code 7 = .ok (.newarray .int, 2) := by decide +kernel
theorem dq_Asks_9 : decode prog_2_method_1_code 9 = .ok (.putfield 11, 3) := by decide +kernel
theorem dq_Asks_12 : decode prog_2_method_1_code 12 = .ok (.aload_n 0, 1) := by decide +kernel
theorem dq_Asks_13 : decode prog_2_method_1_code 13 = .ok (.iconst 0, 1) := by decide +kernel
theorem dq_Asks_14 : decode prog_2_method_1_code 14 = .ok (.putfield 15, 3) := by decide +kernel
theorem dq_Asks_17 : decode prog_2_method_1_code 17 = .ok (.return_, 1) := by decide +kernel
theorem dq_Model_0 : decode prog_11_method_1_code 0 = .ok (.aload_n 0, 1) := by decide +kernel
theorem dq_Model_1 : decode prog_11_method_1_code 1 = .ok (.invokespecial 1, 3) := by decide +kernel
theorem dq_Model_4 : decode prog_11_method_1_code 4 = .ok (.aload_n 0, 1) := by decide +kernel
theorem dq_Model_5 : decode prog_11_method_1_code 5 = .ok (.bipush 8, 2) := by decide +kernel
theorem dq_Model_7 : decode prog_11_method_1_code 7 = .ok (.newarray .int, 2) := by decide +kernel
theorem dq_Model_9 : decode prog_11_method_1_code 9 = .ok (.dup, 1) := by decide +kernel
theorem dq_Model_10 : decode prog_11_method_1_code 10 = .ok (.iconst 0, 1) := by decide +kernel
theorem dq_Model_11 : decode prog_11_method_1_code 11 = .ok (.iconst (-1), 1) := by decide +kernel
theorem dq_Model_12 : decode prog_11_method_1_code 12 = .ok (.iastore, 1) := by decide +kernel
theorem dq_Model_13 : decode prog_11_method_1_code 13 = .ok (.dup, 1) := by decide +kernel
theorem dq_Model_14 : decode prog_11_method_1_code 14 = .ok (.iconst 1, 1) := by decide +kernel
theorem dq_Model_15 : decode prog_11_method_1_code 15 = .ok (.iconst (-1), 1) := by decide +kernel
theorem dq_Model_16 : decode prog_11_method_1_code 16 = .ok (.iastore, 1) := by decide +kernel
theorem dq_Model_17 : decode prog_11_method_1_code 17 = .ok (.dup, 1) := by decide +kernel
theorem dq_Model_18 : decode prog_11_method_1_code 18 = .ok (.iconst 2, 1) := by decide +kernel
theorem dq_Model_19 : decode prog_11_method_1_code 19 = .ok (.iconst (-1), 1) := by decide +kernel
theorem dq_Model_20 : decode prog_11_method_1_code 20 = .ok (.iastore, 1) := by decide +kernel
theorem dq_Model_21 : decode prog_11_method_1_code 21 = .ok (.dup, 1) := by decide +kernel
theorem dq_Model_22 : decode prog_11_method_1_code 22 = .ok (.iconst 3, 1) := by decide +kernel
theorem dq_Model_23 : decode prog_11_method_1_code 23 = .ok (.iconst (-1), 1) := by decide +kernel
theorem dq_Model_24 : decode prog_11_method_1_code 24 = .ok (.iastore, 1) := by decide +kernel
theorem dq_Model_25 : decode prog_11_method_1_code 25 = .ok (.dup, 1) := by decide +kernel
theorem dq_Model_26 : decode prog_11_method_1_code 26 = .ok (.iconst 4, 1) := by decide +kernel
theorem dq_Model_27 : decode prog_11_method_1_code 27 = .ok (.iconst (-1), 1) := by decide +kernel
theorem dq_Model_28 : decode prog_11_method_1_code 28 = .ok (.iastore, 1) := by decide +kernel
theorem dq_Model_29 : decode prog_11_method_1_code 29 = .ok (.dup, 1) := by decide +kernel
theorem dq_Model_30 : decode prog_11_method_1_code 30 = .ok (.iconst 5, 1) := by decide +kernel
theorem dq_Model_31 : decode prog_11_method_1_code 31 = .ok (.iconst (-1), 1) := by decide +kernel
theorem dq_Model_32 : decode prog_11_method_1_code 32 = .ok (.iastore, 1) := by decide +kernel
theorem dq_Model_33 : decode prog_11_method_1_code 33 = .ok (.dup, 1) := by decide +kernel
theorem dq_Model_34 : decode prog_11_method_1_code 34 = .ok (.bipush 6, 2) := by decide +kernel
theorem dq_Model_36 : decode prog_11_method_1_code 36 = .ok (.iconst (-1), 1) := by decide +kernel
theorem dq_Model_37 : decode prog_11_method_1_code 37 = .ok (.iastore, 1) := by decide +kernel
theorem dq_Model_38 : decode prog_11_method_1_code 38 = .ok (.dup, 1) := by decide +kernel
theorem dq_Model_39 : decode prog_11_method_1_code 39 = .ok (.bipush 7, 2) := by decide +kernel
theorem dq_Model_41 : decode prog_11_method_1_code 41 = .ok (.iconst (-1), 1) := by decide +kernel
theorem dq_Model_42 : decode prog_11_method_1_code 42 = .ok (.iastore, 1) := by decide +kernel
theorem dq_Model_43 : decode prog_11_method_1_code 43 = .ok (.putfield 7, 3) := by decide +kernel
theorem dq_Model_46 : decode prog_11_method_1_code 46 = .ok (.aload_n 0, 1) := by decide +kernel
theorem dq_Model_47 : decode prog_11_method_1_code 47 = .ok (.bipush 8, 2) := by decide +kernel
theorem dq_Model_49 : decode prog_11_method_1_code 49 = .ok (.newarray .int, 2) := by decide +kernel
theorem dq_Model_51 : decode prog_11_method_1_code 51 = .ok (.putfield 13, 3) := by decide +kernel
theorem dq_Model_54 : decode prog_11_method_1_code 54 = .ok (.aload_n 0, 1) := by decide +kernel
theorem dq_Model_55 : decode prog_11_method_1_code 55 = .ok (.sipush 800, 3) := by decide +kernel
theorem dq_Model_58 : decode prog_11_method_1_code 58 = .ok (.newarray .int, 2) := by decide +kernel
theorem dq_Model_60 : decode prog_11_method_1_code 60 = .ok (.putfield 16, 3) := by decide +kernel
theorem dq_Model_63 : decode prog_11_method_1_code 63 = .ok (.aload_n 0, 1) := by decide +kernel
theorem dq_Model_64 : decode prog_11_method_1_code 64 = .ok (.iconst 5, 1) := by decide +kernel
theorem dq_Model_65 : decode prog_11_method_1_code 65 = .ok (.newarray .int, 2) := by decide +kernel
theorem dq_Model_67 : decode prog_11_method_1_code 67 = .ok (.dup, 1) := by decide +kernel
theorem dq_Model_68 : decode prog_11_method_1_code 68 = .ok (.iconst 0, 1) := by decide +kernel
theorem dq_Model_69 : decode prog_11_method_1_code 69 = .ok (.bipush 20, 2) := by decide +kernel
theorem dq_Model_71 : decode prog_11_method_1_code 71 = .ok (.iastore, 1) := by decide +kernel
theorem dq_Model_72 : decode prog_11_method_1_code 72 = .ok (.dup, 1) := by decide +kernel
theorem dq_Model_73 : decode prog_11_method_1_code 73 = .ok (.iconst 1, 1) := by decide +kernel
theorem dq_Model_74 : decode prog_11_method_1_code 74 = .ok (.bipush 6, 2) := by decide +kernel
theorem dq_Model_76 : decode prog_11_method_1_code 76 = .ok (.iastore, 1) := by decide +kernel
theorem dq_Model_77 : decode prog_11_method_1_code 77 = .ok (.dup, 1) := by decide +kernel
theorem dq_Model_78 : decode prog_11_method_1_code 78 = .ok (.iconst 2, 1) := by decide +kernel
theorem dq_Model_79 : decode prog_11_method_1_code 79 = .ok (.bipush 15, 2) := by decide +kernel
theorem dq_Model_81 : decode prog_11_method_1_code 81 = .ok (.iastore, 1) := by decide +kernel
theorem dq_Model_82 : decode prog_11_method_1_code 82 = .ok (.dup, 1) := by decide +kernel
theorem dq_Model_83 : decode prog_11_method_1_code 83 = .ok (.iconst 3, 1) := by decide +kernel
theorem dq_Model_84 : decode prog_11_method_1_code 84 = .ok (.bipush 10, 2) := by decide +kernel
theorem dq_Model_86 : decode prog_11_method_1_code 86 = .ok (.iastore, 1) := by decide +kernel
theorem dq_Model_87 : decode prog_11_method_1_code 87 = .ok (.dup, 1) := by decide +kernel
theorem dq_Model_88 : decode prog_11_method_1_code 88 = .ok (.iconst 4, 1) := by decide +kernel
theorem dq_Model_89 : decode prog_11_method_1_code 89 = .ok (.bipush 15, 2) := by decide +kernel
theorem dq_Model_91 : decode prog_11_method_1_code 91 = .ok (.iastore, 1) := by decide +kernel
theorem dq_Model_92 : decode prog_11_method_1_code 92 = .ok (.putfield 19, 3) := by decide +kernel
theorem dq_Model_95 : decode prog_11_method_1_code 95 = .ok (.aload_n 0, 1) := by decide +kernel
theorem dq_Model_96 : decode prog_11_method_1_code 96 = .ok (.bipush 6, 2) := by decide +kernel
theorem dq_Model_98 : decode prog_11_method_1_code 98 = .ok (.newarray .int, 2) := by decide +kernel
theorem dq_Model_100 : decode prog_11_method_1_code 100 = .ok (.putfield 22, 3) := by decide +kernel
theorem dq_Model_103 : decode prog_11_method_1_code 103 = .ok (.aload_n 0, 1) := by decide +kernel
theorem dq_Model_104 : decode prog_11_method_1_code 104 = .ok (.bipush 6, 2) := by decide +kernel
theorem dq_Model_106 : decode prog_11_method_1_code 106 = .ok (.newarray .int, 2) := by decide +kernel
theorem dq_Model_108 : decode prog_11_method_1_code 108 = .ok (.putfield 25, 3) := by decide +kernel
theorem dq_Model_111 : decode prog_11_method_1_code 111 = .ok (.aload_n 0, 1) := by decide +kernel
theorem dq_Model_112 : decode prog_11_method_1_code 112 = .ok (.iconst 4, 1) := by decide +kernel
theorem dq_Model_113 : decode prog_11_method_1_code 113 = .ok (.newarray .int, 2) := by decide +kernel
theorem dq_Model_115 : decode prog_11_method_1_code 115 = .ok (.putfield 28, 3) := by decide +kernel
theorem dq_Model_118 : decode prog_11_method_1_code 118 = .ok (.aload_n 0, 1) := by decide +kernel
theorem dq_Model_119 : decode prog_11_method_1_code 119 = .ok (.iconst 3, 1) := by decide +kernel
theorem dq_Model_120 : decode prog_11_method_1_code 120 = .ok (.newarray .int, 2) := by decide +kernel
theorem dq_Model_122 : decode prog_11_method_1_code 122 = .ok (.putfield 31, 3) := by decide +kernel
theorem dq_Model_125 : decode prog_11_method_1_code 125 = .ok (.aload_n 0, 1) := by decide +kernel
theorem dq_Model_126 : decode prog_11_method_1_code 126 = .ok (.bipush 12, 2) := by decide +kernel
theorem dq_Model_128 : decode prog_11_method_1_code 128 = .ok (.newarray .boolean, 2) := by decide +kernel
theorem dq_Model_130 : decode prog_11_method_1_code 130 = .ok (.putfield 34, 3) := by decide +kernel
theorem dq_Model_133 : decode prog_11_method_1_code 133 = .ok (.aload_n 0, 1) := by decide +kernel
theorem dq_Model_134 : decode prog_11_method_1_code 134 = .ok (.bipush 12, 2) := by decide +kernel
theorem dq_Model_136 : decode prog_11_method_1_code 136 = .ok (.newarray .int, 2) := by decide +kernel
theorem dq_Model_138 : decode prog_11_method_1_code 138 = .ok (.putfield 38, 3) := by decide +kernel
theorem dq_Model_141 : decode prog_11_method_1_code 141 = .ok (.aload_n 0, 1) := by decide +kernel
theorem dq_Model_142 : decode prog_11_method_1_code 142 = .ok (.bipush 8, 2) := by decide +kernel
theorem dq_Model_144 : decode prog_11_method_1_code 144 = .ok (.newarray .int, 2) := by decide +kernel
theorem dq_Model_146 : decode prog_11_method_1_code 146 = .ok (.putfield 41, 3) := by decide +kernel
theorem dq_Model_149 : decode prog_11_method_1_code 149 = .ok (.aload_n 0, 1) := by decide +kernel
theorem dq_Model_150 : decode prog_11_method_1_code 150 = .ok (.bipush 68, 2) := by decide +kernel
theorem dq_Model_152 : decode prog_11_method_1_code 152 = .ok (.newarray .int, 2) := by decide +kernel
theorem dq_Model_154 : decode prog_11_method_1_code 154 = .ok (.putfield 44, 3) := by decide +kernel
theorem dq_Model_157 : decode prog_11_method_1_code 157 = .ok (.aload_n 0, 1) := by decide +kernel
theorem dq_Model_158 : decode prog_11_method_1_code 158 = .ok (.bipush 68, 2) := by decide +kernel
theorem dq_Model_160 : decode prog_11_method_1_code 160 = .ok (.newarray .int, 2) := by decide +kernel
theorem dq_Model_162 : decode prog_11_method_1_code 162 = .ok (.putfield 47, 3) := by decide +kernel
theorem dq_Model_165 : decode prog_11_method_1_code 165 = .ok (.aload_n 0, 1) := by decide +kernel
theorem dq_Model_166 : decode prog_11_method_1_code 166 = .ok (.bipush 8, 2) := by decide +kernel
theorem dq_Model_168 : decode prog_11_method_1_code 168 = .ok (.newarray .int, 2) := by decide +kernel
theorem dq_Model_170 : decode prog_11_method_1_code 170 = .ok (.putfield 50, 3) := by decide +kernel
theorem dq_Model_173 : decode prog_11_method_1_code 173 = .ok (.aload_n 0, 1) := by decide +kernel
theorem dq_Model_174 : decode prog_11_method_1_code 174 = .ok (.bipush 100, 2) := by decide +kernel
theorem dq_Model_176 : decode prog_11_method_1_code 176 = .ok (.newarray .int, 2) := by decide +kernel
theorem dq_Model_178 : decode prog_11_method_1_code 178 = .ok (.putfield 53, 3) := by decide +kernel
theorem dq_Model_181 : decode prog_11_method_1_code 181 = .ok (.aload_n 0, 1) := by decide +kernel
theorem dq_Model_182 : decode prog_11_method_1_code 182 = .ok (.bipush 16, 2) := by decide +kernel
theorem dq_Model_184 : decode prog_11_method_1_code 184 = .ok (.newarray .int, 2) := by decide +kernel
theorem dq_Model_186 : decode prog_11_method_1_code 186 = .ok (.putfield 56, 3) := by decide +kernel
theorem dq_Model_189 : decode prog_11_method_1_code 189 = .ok (.return_, 1) := by decide +kernel
theorem dq_SW_0 : decode prog_1_method_1_code 0 = .ok (.aload_n 0, 1) := by decide +kernel
theorem dq_SW_1 : decode prog_1_method_1_code 1 = .ok (.invokespecial 1, 3) := by decide +kernel
theorem dq_SW_4 : decode prog_1_method_1_code 4 = .ok (.aload_n 0, 1) := by decide +kernel
theorem dq_SW_5 : decode prog_1_method_1_code 5 = .ok (.new 7, 3) := by decide +kernel
theorem dq_SW_8 : decode prog_1_method_1_code 8 = .ok (.dup, 1) := by decide +kernel
theorem dq_SW_9 : decode prog_1_method_1_code 9 = .ok (.invokespecial 9, 3) := by decide +kernel
theorem dq_SW_12 : decode prog_1_method_1_code 12 = .ok (.putfield 10, 3) := by decide +kernel
theorem dq_SW_15 : decode prog_1_method_1_code 15 = .ok (.aload_n 0, 1) := by decide +kernel
theorem dq_SW_16 : decode prog_1_method_1_code 16 = .ok (.new 16, 3) := by decide +kernel
theorem dq_SW_19 : decode prog_1_method_1_code 19 = .ok (.dup, 1) := by decide +kernel
theorem dq_SW_20 : decode prog_1_method_1_code 20 = .ok (.invokespecial 18, 3) := by decide +kernel
theorem dq_SW_23 : decode prog_1_method_1_code 23 = .ok (.putfield 19, 3) := by decide +kernel
theorem dq_SW_26 : decode prog_1_method_1_code 26 = .ok (.aload_n 0, 1) := by decide +kernel
theorem dq_SW_27 : decode prog_1_method_1_code 27 = .ok (.new 23, 3) := by decide +kernel
theorem dq_SW_30 : decode prog_1_method_1_code 30 = .ok (.dup, 1) := by decide +kernel
theorem dq_SW_31 : decode prog_1_method_1_code 31 = .ok (.invokespecial 25, 3) := by decide +kernel
theorem dq_SW_34 : decode prog_1_method_1_code 34 = .ok (.putfield 26, 3) := by decide +kernel
theorem dq_SW_37 : decode prog_1_method_1_code 37 = .ok (.aload_n 0, 1) := by decide +kernel
theorem dq_SW_38 : decode prog_1_method_1_code 38 = .ok (.new 30, 3) := by decide +kernel
theorem dq_SW_41 : decode prog_1_method_1_code 41 = .ok (.dup, 1) := by decide +kernel
theorem dq_SW_42 : decode prog_1_method_1_code 42 = .ok (.invokespecial 32, 3) := by decide +kernel
theorem dq_SW_45 : decode prog_1_method_1_code 45 = .ok (.putfield 33, 3) := by decide +kernel
theorem dq_SW_48 : decode prog_1_method_1_code 48 = .ok (.aload_n 0, 1) := by decide +kernel
theorem dq_SW_49 : decode prog_1_method_1_code 49 = .ok (.new 37, 3) := by decide +kernel
theorem dq_SW_52 : decode prog_1_method_1_code 52 = .ok (.dup, 1) := by decide +kernel
theorem dq_SW_53 : decode prog_1_method_1_code 53 = .ok (.invokespecial 39, 3) := by decide +kernel
theorem dq_SW_56 : decode prog_1_method_1_code 56 = .ok (.putfield 40, 3) := by decide +kernel
theorem dq_SW_59 : decode prog_1_method_1_code 59 = .ok (.aload_n 0, 1) := by decide +kernel
theorem dq_SW_60 : decode prog_1_method_1_code 60 = .ok (.new 44, 3) := by decide +kernel
theorem dq_SW_63 : decode prog_1_method_1_code 63 = .ok (.dup, 1) := by decide +kernel
theorem dq_SW_64 : decode prog_1_method_1_code 64 = .ok (.invokespecial 46, 3) := by decide +kernel
theorem dq_SW_67 : decode prog_1_method_1_code 67 = .ok (.putfield 47, 3) := by decide +kernel
theorem dq_SW_70 : decode prog_1_method_1_code 70 = .ok (.aload_n 0, 1) := by decide +kernel
theorem dq_SW_71 : decode prog_1_method_1_code 71 = .ok (.new 51, 3) := by decide +kernel
theorem dq_SW_74 : decode prog_1_method_1_code 74 = .ok (.dup, 1) := by decide +kernel
theorem dq_SW_75 : decode prog_1_method_1_code 75 = .ok (.invokespecial 53, 3) := by decide +kernel
theorem dq_SW_78 : decode prog_1_method_1_code 78 = .ok (.putfield 54, 3) := by decide +kernel
theorem dq_SW_81 : decode prog_1_method_1_code 81 = .ok (.aload_n 0, 1) := by decide +kernel
theorem dq_SW_82 : decode prog_1_method_1_code 82 = .ok (.iconst 0, 1) := by decide +kernel
theorem dq_SW_83 : decode prog_1_method_1_code 83 = .ok (.putfield 58, 3) := by decide +kernel
theorem dq_SW_86 : decode prog_1_method_1_code 86 = .ok (.return_, 1) := by decide +kernel
theorem dq_law_0 : decode code 0 = .ok (.new 7, 3) := by decide +kernel
theorem dq_law_3 : decode code 3 = .ok (.dup, 1) := by decide +kernel
theorem dq_law_4 : decode code 4 = .ok (.invokespecial 9, 3) := by decide +kernel
theorem dq_law_7 : decode code 7 = .ok (.astore_n 1, 1) := by decide +kernel
theorem dq_law_8 : decode code 8 = .ok (.new 10, 3) := by decide +kernel
theorem dq_law_11 : decode code 11 = .ok (.dup, 1) := by decide +kernel
theorem dq_law_12 : decode code 12 = .ok (.invokespecial 12, 3) := by decide +kernel
theorem dq_law_15 : decode code 15 = .ok (.astore_n 2, 1) := by decide +kernel
theorem dq_law_16 : decode code 16 = .ok (.iconst 0, 1) := by decide +kernel
theorem dq_law_17 : decode code 17 = .ok (.istore_n 3, 1) := by decide +kernel
theorem dq_fill_0 : decode prog_14_method_103_code 0 = .ok (.iconst 0, 1) := by decide +kernel
theorem dq_fill_1 : decode prog_14_method_103_code 1 = .ok (.istore_n 2, 1) := by decide +kernel
theorem dq_fill_2 : decode prog_14_method_103_code 2 = .ok (.aload_n 0, 1) := by decide +kernel
theorem dq_fill_3 : decode prog_14_method_103_code 3 = .ok (.arraylength, 1) := by decide +kernel
theorem dq_fill_4 : decode prog_14_method_103_code 4 = .ok (.istore_n 3, 1) := by decide +kernel
theorem dq_fill_5 : decode prog_14_method_103_code 5 = .ok (.iload_n 2, 1) := by decide +kernel
theorem dq_fill_6 : decode prog_14_method_103_code 6 = .ok (.iload_n 3, 1) := by decide +kernel
theorem dq_fill_7 : decode prog_14_method_103_code 7 = .ok (.if_icmp .ge 13, 3) := by decide +kernel
theorem dq_fill_10 : decode prog_14_method_103_code 10 = .ok (.aload_n 0, 1) := by decide +kernel
theorem dq_fill_11 : decode prog_14_method_103_code 11 = .ok (.iload_n 2, 1) := by decide +kernel
theorem dq_fill_12 : decode prog_14_method_103_code 12 = .ok (.iload_n 1, 1) := by decide +kernel
theorem dq_fill_13 : decode prog_14_method_103_code 13 = .ok (.iastore, 1) := by decide +kernel
theorem dq_fill_14 : decode prog_14_method_103_code 14 = .ok (.iinc 2 1, 3) := by decide +kernel
theorem dq_fill_17 : decode prog_14_method_103_code 17 = .ok (.goto (-12), 3) := by decide +kernel
theorem dq_fill_20 : decode prog_14_method_103_code 20 = .ok (.return_, 1) := by decide +kernel
