/-! small rows for the walks -/
theorem bi {c A B : Prop} (f : c → A) (g : ¬ c → B) : (c → A) ∧ (¬ c → B) := ⟨f, g⟩
theorem bj {c A B : Prop} (f : ¬ c → A) (g : c → B) : (¬ c → A) ∧ (c → B) := ⟨f, g⟩
theorem vi {i : Int32} {n : Nat} {B : Prop} (h : vp_in i n) (k : B) : vp_in i n ∧ B := ⟨h, k⟩
theorem zi {y : Int32} {B : Prop} (h : ¬ y = 0) (k : B) : ¬ y = 0 ∧ B := ⟨h, k⟩
theorem ni {v : Int32} {B : Prop} (h : narrow .boolean (.int v) = .int v) (k : B) : narrow .boolean (.int v) = .int v ∧ B := ⟨h, k⟩
theorem Qi {Q : Qt} {v w : Int32} {G : Gt} (h : Q (some (.int v)) G) (e : w = v) : Q (some (.int w)) G := by subst e; exact h
theorem Ql {Q : Qt} {v w : Int64} {G : Gt} (h : Q (some (.long v)) G) (e : w = v) : Q (some (.long w)) G := by subst e; exact h
/-- a boolean as an int -/
def bI (c : Prop) [Decidable c] : Int32 := if c then 1 else 0
theorem bI_t {c : Prop} [Decidable c] (h : c) : bI c = 1 := if_pos h
theorem bI_f {c : Prop} [Decidable c] (h : ¬ c) : bI c = 0 := if_neg h
theorem bI_0 {c : Prop} [Decidable c] : bI c = 0 ↔ ¬ c := by
  unfold bI; split <;> simp_all
theorem bI_1 {c : Prop} [Decidable c] : bI c = 1 ↔ c := by
  unfold bI; split <;> simp_all
theorem bI_nar (c : Prop) [Decidable c] : narrow .boolean (.int (bI c)) = .int (bI c) := by
  unfold bI; split <;> rfl
theorem bI_congr {c d : Prop} [Decidable c] [Decidable d] (h : c ↔ d) : bI c = bI d := by
  by_cases hd : d
  · rw [bI_t hd, bI_t (h.mpr hd)]
  · rw [bI_f hd, bI_f (fun z => hd (h.mp z))]
theorem bib {c A B : Prop} [Decidable c] (f : ¬ c → A) (g : c → B) : (bI c = 0 → A) ∧ (¬ bI c = 0 → B) := ⟨fun h => f (bI_0.mp h), fun h => g (Decidable.byContradiction fun z => h (bI_f z))⟩
theorem bjb {c A B : Prop} [Decidable c] (f : c → A) (g : ¬ c → B) : (¬ bI c = 0 → A) ∧ (bI c = 0 → B) := ⟨fun h => f (Decidable.byContradiction fun z => h (bI_f z)), fun h => g (bI_0.mp h)⟩
theorem bi_t {c A B : Prop} (h : c) (a : A) : (c → A) ∧ (¬ c → B) := ⟨fun _ => a, fun z => absurd h z⟩
theorem bi_f {c A B : Prop} (h : ¬ c) (b : B) : (c → A) ∧ (¬ c → B) := ⟨fun z => absurd z h, fun _ => b⟩
theorem bj_t {c A B : Prop} (h : c) (b : B) : (¬ c → A) ∧ (c → B) := ⟨fun z => absurd h z, fun _ => b⟩
theorem bj_f {c A B : Prop} (h : ¬ c) (a : A) : (¬ c → A) ∧ (c → B) := ⟨fun _ => a, fun z => absurd z h⟩
theorem bib_t {c A B : Prop} [Decidable c] (h : c) (b : B) : (bI c = 0 → A) ∧ (¬ bI c = 0 → B) := bib (fun z => absurd h z) (fun _ => b)
theorem bib_f {c A B : Prop} [Decidable c] (h : ¬ c) (a : A) : (bI c = 0 → A) ∧ (¬ bI c = 0 → B) := bib (fun _ => a) (fun z => absurd z h)
theorem bjb_t {c A B : Prop} [Decidable c] (h : c) (a : A) : (¬ bI c = 0 → A) ∧ (bI c = 0 → B) := bjb (fun _ => a) (fun z => absurd h z)
theorem bjb_f {c A B : Prop} [Decidable c] (h : ¬ c) (b : B) : (¬ bI c = 0 → A) ∧ (bI c = 0 → B) := bjb (fun z => absurd z h) (fun _ => b)
theorem le32 {a b : Int32} : a ≤ b ↔ a.toInt ≤ b.toInt := Int32.le_iff_toInt_le
theorem lt32 {a b : Int32} : a < b ↔ a.toInt < b.toInt := Int32.lt_iff_toInt_lt
theorem eq32 {a b : Int32} : a = b ↔ a.toInt = b.toInt := Int32.toInt_inj.symm
theorem rng (x : Int32) : -2147483648 ≤ x.toInt ∧ x.toInt < 2147483648 := ⟨Int32.le_toInt x, Int32.toInt_lt x⟩
theorem bm {z : Int} (h1 : -2147483648 ≤ z) (h2 : z < 2147483648) : z.bmod (2 ^ 32) = z := by
  rw [Int.bmod_def]
  split <;> omega
theorem addI {x y : Int32} (h1 : -2147483648 ≤ x.toInt + y.toInt) (h2 : x.toInt + y.toInt < 2147483648) : (x + y).toInt = x.toInt + y.toInt := by
  rw [Int32.toInt_add]; exact bm h1 h2
theorem subI {x y : Int32} (h1 : -2147483648 ≤ x.toInt - y.toInt) (h2 : x.toInt - y.toInt < 2147483648) : (x - y).toInt = x.toInt - y.toInt := by
  rw [Int32.toInt_sub]; exact bm h1 h2
theorem mulI {x y : Int32} (h1 : -2147483648 ≤ x.toInt * y.toInt) (h2 : x.toInt * y.toInt < 2147483648) : (x * y).toInt = x.toInt * y.toInt := by
  rw [Int32.toInt_mul]; exact bm h1 h2
theorem ofI (n : Int) (h1 : -2147483648 ≤ n) (h2 : n < 2147483648) : (Int32.ofInt n).toInt = n := by
  rw [Int32.toInt_ofInt]; exact bm h1 h2
theorem cl_0 : (0 : Int32).toNatClampNeg = 0 := rfl
theorem cl_1 : (1 : Int32).toNatClampNeg = 1 := rfl
theorem cl_2 : (2 : Int32).toNatClampNeg = 2 := rfl
theorem cl_3 : (3 : Int32).toNatClampNeg = 3 := rfl
theorem cl_4 : (4 : Int32).toNatClampNeg = 4 := rfl
theorem cl_5 : (5 : Int32).toNatClampNeg = 5 := rfl
theorem cl_6 : (6 : Int32).toNatClampNeg = 6 := rfl
theorem inI {x : Int32} {n : Nat} (h1 : 0 ≤ x.toInt) (h2 : x.toInt < n) : vp_in x n := vp_in_iff.mpr ⟨h1, h2⟩
theorem clamp (x : Int32) : x.toNatClampNeg = x.toInt.toNat := rfl
/-- fewer locals, in another order: by their places -/
theorem wp_pick {X : Xt} {mi pc : Nat} {L : Lt} {st : List Value} {G : Gt} {Q : Qt} (ks : List Nat) (h : wp X mi pc (lv_pick L ks) st G Q) : wp X mi pc L st G Q := by
  intro E p l e R s m args below meth c A H locs cells slots ls Z F hr hP hD hS hl
  refine h E p l e R s m args below meth c A H locs cells slots ls Z F hr hP hD hS ⟨hl.1, hl.2.1, fun q hq => ?_⟩
  obtain ⟨q0, h0, rfl⟩ := List.mem_map.mp hq
  obtain ⟨k, -, hk⟩ := List.mem_filterMap.mp h0
  exact hl.2.2 _ (List.mem_map.mpr ⟨q0, List.mem_of_getElem? hk, rfl⟩)
/-! StoneWorks's own small methods -/
theorem c_within {X : Xt} {v lo hi : Int32} {G : Gt} {Q : Qt} (K : Q (some (.int (bI (lo ≤ v ∧ v ≤ hi)))) G) : con X m_SW_within [.int v, .int lo, .int hi] G Q := by
  refine con_rn 40 [] (by decide) rfl ?_
  repeat' first | refine bib (fun h => ?_) (fun h => ?_) | refine bjb (fun h => ?_) (fun h => ?_) | refine bi (fun h => ?_) (fun h => ?_) | refine bj (fun h => ?_) (fun h => ?_) | refine vi (inI (by decide) (by decide)) ?_ | refine vi ?_ ?_ | refine zi (by decide) ?_ | refine zi ?_ ?_ | refine ni rfl ?_ | refine ni (bI_nar _) ?_
  · refine Qi K (bI_f (fun z => Int32.not_lt.mpr z.1 ?_)).symm; assumption
  · refine Qi K (bI_f (fun z => Int32.not_lt.mpr z.2 ?_)).symm; assumption
  · refine Qi K (bI_t ⟨Int32.not_lt.mp ?_, Int32.not_lt.mp ?_⟩).symm <;> assumption
theorem c_found {X : Xt} {f : Int32} {G : Gt} {Q : Qt} (K : Q (some (.int (-1000010 - f))) (sG G 0 (upd (G 0) 7 f))) : con X m_SW_found [.ref 0, .int f] G Q := by
  refine con_rn 40 [] (by decide) rfl ?_
  repeat' first | refine bib (fun h => ?_) (fun h => ?_) | refine bjb (fun h => ?_) (fun h => ?_) | refine bi (fun h => ?_) (fun h => ?_) | refine bj (fun h => ?_) (fun h => ?_) | refine vi (inI (by decide) (by decide)) ?_ | refine vi ?_ ?_ | refine zi (by decide) ?_ | refine zi ?_ ?_ | refine ni rfl ?_ | refine ni (bI_nar _) ?_
  exact K
theorem c_fine {X : Xt} {f : Int32} {G : Gt} {Q : Qt} (K : Q (some (.int f)) (sG G 0 (upd (G 0) 7 0))) : con X m_SW_fine [.ref 0, .int f] G Q := by
  refine con_rn 40 [] (by decide) rfl ?_
  repeat' first | refine bib (fun h => ?_) (fun h => ?_) | refine bjb (fun h => ?_) (fun h => ?_) | refine bi (fun h => ?_) (fun h => ?_) | refine bj (fun h => ?_) (fun h => ?_) | refine vi (inI (by decide) (by decide)) ?_ | refine vi ?_ ?_ | refine zi (by decide) ?_ | refine zi ?_ ?_ | refine ni rfl ?_ | refine ni (bI_nar _) ?_
  exact K
theorem c_isNumber {X : Xt} {s : Int32} {G : Gt} {Q : Qt} (K : Q (some (.int (bI (0 ≤ s ∧ s ≤ 7)))) G) : con X m_Sheets_isNumber [.int s] G Q := by
  refine con_rn 40 [] (by decide) rfl ?_
  repeat' first | refine bib (fun h => ?_) (fun h => ?_) | refine bjb (fun h => ?_) (fun h => ?_) | refine bi (fun h => ?_) (fun h => ?_) | refine bj (fun h => ?_) (fun h => ?_) | refine vi (inI (by decide) (by decide)) ?_ | refine vi ?_ ?_ | refine zi (by decide) ?_ | refine zi ?_ ?_ | refine ni rfl ?_ | refine ni (bI_nar _) ?_ | refine c_within ?_
  exact K
theorem c_isCrane {X : Xt} {c r : Int32} {G : Gt} {Q : Qt} (K : Q (some (.int (bI ((0 ≤ c ∧ c ≤ 11) ∧ 0 ≤ r ∧ r ≤ 30)))) G) : con X m_SW_isCrane [.int c, .int r] G Q := by
  refine con_rn 40 [] (by decide) rfl ?_
  repeat' first | refine bib (fun h => ?_) (fun h => ?_) | refine bjb (fun h => ?_) (fun h => ?_) | refine bi (fun h => ?_) (fun h => ?_) | refine bj (fun h => ?_) (fun h => ?_) | refine vi (inI (by decide) (by decide)) ?_ | refine vi ?_ ?_ | refine zi (by decide) ?_ | refine zi ?_ ?_ | refine ni rfl ?_ | refine ni (bI_nar _) ?_ | refine c_within ?_
  all_goals first | exact Qi K (bI_t (by ((try simp only [le32, lt32, eq32, ne_eq, cl_0, cl_1, cl_2, cl_3, cl_4, cl_5, cl_6] at *); (try simp only [Int32.reduceToInt] at *); omega))).symm | exact Qi K (bI_f (by ((try simp only [le32, lt32, eq32, ne_eq, cl_0, cl_1, cl_2, cl_3, cl_4, cl_5, cl_6] at *); (try simp only [Int32.reduceToInt] at *); omega))).symm | (refine inI ?_ ?_ <;> ((try simp only [le32, lt32, eq32, ne_eq, cl_0, cl_1, cl_2, cl_3, cl_4, cl_5, cl_6] at *); (try simp only [Int32.reduceToInt] at *); omega))
