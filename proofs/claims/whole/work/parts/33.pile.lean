/-! bits of ints (pasted from the kit's laws, the family bt) -/
def bt (x : Int32) (i : Nat) : Bool := x.toBitVec.getLsbD i
theorem b_or (x y : Int32) (i : Nat) : bt (x ||| y) i = (bt x i || bt y i) := by unfold bt; rw [Int32.toBitVec_or, BitVec.getLsbD_or]
theorem b_and (x y : Int32) (i : Nat) : bt (x &&& y) i = (bt x i && bt y i) := by unfold bt; rw [Int32.toBitVec_and, BitVec.getLsbD_and]
theorem b_xor (x y : Int32) (i : Nat) : bt (x ^^^ y) i = (bt x i ^^ bt y i) := by unfold bt; rw [Int32.toBitVec_xor, BitVec.getLsbD_xor]
theorem b_big {x : Int32} {i : Nat} (h : 32 ≤ i) : bt x i = false := BitVec.getLsbD_of_ge _ _ h
theorem b_m1 : ∀ i, i < 32 → bt (-1) i = true := by decide +kernel
theorem s_l : ∀ n, n < 32 → ((nI n &&& 31).toBitVec.smod 32).toNat = n := by decide +kernel
theorem b_1sh : ∀ P, P < 32 → ∀ i, i < 32 → bt ((1 : Int32) <<< (nI P &&& 31)) i = decide (i = P) := by decide +kernel
/-- an int of none below 0, by its bits -/
theorem bt_tb {x : Int32} (h : 0 ≤ x.toInt) (i : Nat) : bt x i = x.toInt.toNat.testBit i := by
  have e : x.toInt.toNat = x.toBitVec.toNat := by
    have h1 : x.toInt = x.toBitVec.toInt := rfl
    have h2 := x.toBitVec.isLt
    rw [h1] at h
    rw [h1]
    rw [BitVec.toInt_eq_toNat_cond] at h ⊢
    split
    · omega
    · rename_i h3
      rw [if_neg h3] at h
      omega
  rw [e, BitVec.testBit_toNat]
  rfl
/-- an int with no bit from n on, n below 32 -/
theorem bt_small {x : Int32} {n : Nat} (hn : n < 32) (h : ∀ i, n ≤ i → i < 32 → bt x i = false) : 0 ≤ x.toInt ∧ x.toInt < 2 ^ n := by
  have h1 : x.toBitVec.toNat < 2 ^ n := by
    apply Nat.lt_pow_two_of_testBit
    intro i hi
    rw [BitVec.testBit_toNat]
    by_cases h32 : i < 32
    · exact h i hi h32
    · exact b_big (Nat.le_of_not_lt h32)
  have h2 : (2 : Nat) ^ n ≤ 2 ^ 31 := Nat.pow_le_pow_right (by omega) (by omega)
  have h3 : x.toInt = (x.toBitVec.toNat : Int) := by
    have h4 : x.toInt = x.toBitVec.toInt := rfl
    rw [h4, BitVec.toInt_eq_toNat_cond, if_pos (by omega)]
  rw [h3]
  refine ⟨by omega, ?_⟩
  exact_mod_cast h1
/-- bit P put on -/
theorem bit_on {x : Int32} {n P : Nat} (hn : n < 32) (hP : P < n) (h0 : 0 ≤ x.toInt) (h1 : x.toInt < 2 ^ n) : (0 ≤ (x ||| (1 : Int32) <<< (nI P &&& 31)).toInt ∧ (x ||| (1 : Int32) <<< (nI P &&& 31)).toInt < 2 ^ n) ∧ ∀ j, j < 32 → (x ||| (1 : Int32) <<< (nI P &&& 31)).toInt.toNat.testBit j = (x.toInt.toNat.testBit j || decide (j = P)) := by
  have hx : ∀ i, n ≤ i → x.toInt.toNat.testBit i = false := fun i hi => Nat.testBit_lt_two_pow (Nat.lt_of_lt_of_le (show x.toInt.toNat < 2 ^ n by
    have : ((2 ^ n : Nat) : Int) = (2 : Int) ^ n := by exact_mod_cast rfl
    omega) (Nat.pow_le_pow_right (by omega) hi))
  have hr := bt_small (x := x ||| (1 : Int32) <<< (nI P &&& 31)) hn (fun i hi h32 => by rw [b_or, b_1sh P (by omega) i h32, bt_tb h0, hx i hi, decide_eq_false (by omega)]; rfl)
  refine ⟨hr, fun j hj => ?_⟩
  rw [← bt_tb hr.1, b_or, b_1sh P (by omega) j hj, bt_tb h0]
/-- bit P put off -/
theorem bit_off {x : Int32} {n P : Nat} (hn : n < 32) (hP : P < n) (h0 : 0 ≤ x.toInt) (h1 : x.toInt < 2 ^ n) : (0 ≤ (x &&& ((1 : Int32) <<< (nI P &&& 31) ^^^ (-1))).toInt ∧ (x &&& ((1 : Int32) <<< (nI P &&& 31) ^^^ (-1))).toInt < 2 ^ n) ∧ ∀ j, j < 32 → (x &&& ((1 : Int32) <<< (nI P &&& 31) ^^^ (-1))).toInt.toNat.testBit j = (x.toInt.toNat.testBit j && !decide (j = P)) := by
  have hx : ∀ i, n ≤ i → x.toInt.toNat.testBit i = false := fun i hi => Nat.testBit_lt_two_pow (Nat.lt_of_lt_of_le (show x.toInt.toNat < 2 ^ n by
    have : ((2 ^ n : Nat) : Int) = (2 : Int) ^ n := by exact_mod_cast rfl
    omega) (Nat.pow_le_pow_right (by omega) hi))
  have hr := bt_small (x := x &&& ((1 : Int32) <<< (nI P &&& 31) ^^^ (-1))) hn (fun i hi h32 => by rw [b_and, bt_tb h0, hx i hi]; rfl)
  refine ⟨hr, fun j hj => ?_⟩
  rw [← bt_tb hr.1, b_and, b_xor, b_1sh P (by omega) j hj, bt_tb h0, b_m1 j hj, Bool.xor_true]
theorem c_isIn {X : Xt} {x p : Int32} {B P : Nat} {G : Gt} {Q : Qt} (hx : x = nI B) (hp : p = nI P) (hB : B < 2 ^ 31) (hP : P < 32) (K : Q (some (.int (bI (B.testBit P = true)))) G) : con X m_Mo_isIn [.int x, .int p] G Q := by
  subst hx
  subst hp
  have e : (nI B >>> (nI P &&& 31)) &&& 1 = nI (B / 2 ^ P % 2) := by
    rw [pk_shrN hB _ P (s_l P hP), pk_andN (Nat.lt_of_le_of_lt (Nat.div_le_self _ _) (by omega)) 1 rfl]
  have e2 : B.testBit P = true ↔ nI (B / 2 ^ P % 2) = 1 := by
    rw [Nat.testBit_eq_decide_div_mod_eq, decide_eq_true_iff, show (1 : Int32) = nI 1 from rfl, nI_eq (by omega) (by omega)]
  refine con_rn 40 [] (by decide) rfl ?_
  repeat' first | refine bib (fun h => ?_) (fun h => ?_) | refine bjb (fun h => ?_) (fun h => ?_) | refine bi (fun h => ?_) (fun h => ?_) | refine bj (fun h => ?_) (fun h => ?_) | refine vi (inI (by decide) (by decide)) ?_ | refine vi ?_ ?_ | refine zi (by decide) ?_ | refine zi ?_ ?_ | refine ni rfl ?_ | refine ni (bI_nar _) ?_
  · exact absurd h (nI_pos (by omega))
  · rw [e] at h
    exact Qi K (bI_f (fun z => h (e2.mp z))).symm
  · rw [e] at h
    exact Qi K (bI_t (e2.mpr h)).symm
theorem c_isIn_n {X : Xt} {x p : Int32} {G : Gt} {Q : Qt} (hp : p < 0) (K : Q (some (.int 0)) G) : con X m_Mo_isIn [.int x, .int p] G Q := by
  refine con_rn 40 [] (by decide) rfl ?_
  repeat' first | refine bib (fun h => ?_) (fun h => ?_) | refine bjb (fun h => ?_) (fun h => ?_) | refine bi (fun h => ?_) (fun h => ?_) | refine bj (fun h => ?_) (fun h => ?_) | refine vi (inI (by decide) (by decide)) ?_ | refine vi ?_ ?_ | refine zi (by decide) ?_ | refine zi ?_ ?_ | refine ni rfl ?_ | refine ni (bI_nar _) ?_
  · exact K
  · exact absurd hp (by assumption)
  · exact absurd hp (by assumption)
/-! the pile -/
theorem plcN {r p : Int32} (h : plc r p) : ∃ R P : Nat, r = nI R ∧ p = nI P ∧ R < 8 ∧ P + R < 12 := by
  obtain ⟨e1, e2, -⟩ := toN h.1.1
  obtain ⟨e3, e4, -⟩ := toN h.2.1
  have h1 : r.toInt ≤ 7 := by simpa using le32.mp h.1.2
  have h2 : (11 - r).toInt = 11 - r.toInt := by rw [subI (by simp; omega) (by simp; omega)]; simp
  have h3 := le32.mp h.2.2
  exact ⟨_, _, e1, e3, by omega, by omega⟩
theorem plcI {R P : Nat} (hR : R < 8) (hP : P + R < 12) : plc (nI R) (nI P) := by
  have h2 : (11 - nI R).toInt = 11 - (R : Int) := by rw [subI (by rw [nI_toInt (by omega)]; simp; omega) (by rw [nI_toInt (by omega)]; simp; omega), nI_toInt (by omega)]; simp
  refine ⟨⟨nI_pos' (by omega), ?_⟩, nI_pos' (by omega), ?_⟩
  · rw [show (7 : Int32) = nI 7 from rfl, nI_leI (by omega) (by omega)]; omega
  · rw [le32, h2, nI_toInt (by omega)]; omega
theorem c_at {X : Xt} {r p : Int32} {R P : Nat} {G : Gt} {Q : Qt} (hr : r = nI R) (hp : p = nI P) (K : Q (some (.int (nI (12 * R + P)))) G) : con X m_Pile_at [.int r, .int p] G Q := by
  subst hr
  subst hp
  refine con_rn 40 [] (by decide) rfl ?_
  repeat' first | refine bib (fun h => ?_) (fun h => ?_) | refine bjb (fun h => ?_) (fun h => ?_) | refine bi (fun h => ?_) (fun h => ?_) | refine bj (fun h => ?_) (fun h => ?_) | refine vi (inI (by decide) (by decide)) ?_ | refine vi ?_ ?_ | refine zi (by decide) ?_ | refine zi ?_ ?_ | refine ni rfl ?_ | refine ni (bI_nar _) ?_
  refine Qi K ?_
  rw [show (12 : Int32) = nI 12 from rfl, pk_mul, nI_add, Nat.mul_comm]
/-- what bears a place -/
abbrev brn (f : Nat → Int32) (R P : Nat) : Prop := R = 0 ∨ (¬ f (12 * (R - 1) + P) = 0 ∧ ¬ f (12 * (R - 1) + (P + 1)) = 0)
theorem nI_m1 {R : Nat} (h : 0 < R) : nI R - 1 = nI (R - 1) := by
  obtain ⟨z, rfl⟩ : ∃ z, R = z + 1 := ⟨R - 1, by omega⟩
  rw [nI_pred]
  rfl
theorem c_isBorne {X : Xt} {q : Nat} {r p : Int32} {R P : Nat} {G : Gt} {Q : Qt} (hq : q = 15 ∨ q = 16) (hr : r = nI R) (hp : p = nI P) (hR : R < 8) (hP : P + R < 12) (K : Q (some (.int (bI (brn (G q) R P)))) G) : con X m_Pile_isBorne [.ref q, .int r, .int p] G Q := by
  subst hr
  subst hp
  rcases Nat.eq_zero_or_pos R with h0 | h0
  · subst h0
    rcases hq with rfl | rfl
    all_goals
      refine con_rn 60 [] (by decide) rfl ?_
      refine bi_t rfl ?_
      exact ni rfl (Qi K (bI_t (Or.inl rfl)).symm)
  · have e1 := nI_m1 h0
    have hz : ¬ nI R = 0 := nI_ne0 h0 (by omega)
    rcases hq with rfl | rfl
    all_goals
      refine con_rn 60 [] (by decide) rfl ?_
      refine bi_f hz ?_
      refine c_at e1 rfl ?_
      refine vi (vp_in_nI (by omega) (by omega)) ?_
      rw [nI_clamp (by omega)]
      refine bi (fun h => ?_) (fun h => ?_)
      · refine ni rfl (Qi K (bI_f (fun z => ?_)).symm)
        rcases z with z | z
        · omega
        · exact z.1 h
      · refine c_at e1 (nI_1 P) ?_
        refine vi (vp_in_nI (by omega) (by omega)) ?_
        rw [nI_clamp (by omega)]
        refine bi (fun h2 => ?_) (fun h2 => ?_)
        · refine ni rfl (Qi K (bI_f (fun z => ?_)).symm)
          rcases z with z | z
          · omega
          · exact z.2 h2
        · exact ni rfl (Qi K (bI_t (Or.inr ⟨h, h2⟩)).symm)
theorem c_add {X : Xt} {R P : Nat} {G : Gt} {Q : Qt} (hR : R < 8) (hP : P + R < 12) (K1 : ¬ (G 15 (12 * R + P) = 0 ∧ brn (G 15) R P) → Q (some (.int 0)) G) (K2 : G 15 (12 * R + P) = 0 ∧ brn (G 15) R P → Q (some (.int 1)) (sG (sG G 15 (upd (G 15) (12 * R + P) 1)) 14 (upd (G 14) 3 (G 14 3 + 1)))) : con X m_Pile_add [.ref 14, .int (nI R), .int (nI P)] G Q := by
  refine con_rn 60 [] (by decide) rfl ?_
  refine c_at rfl rfl ?_
  refine vi (vp_in_nI (by omega) (by omega)) ?_
  rw [nI_clamp (by omega)]
  refine bj (fun h => ?_) (fun h => ?_)
  · exact ni rfl (K1 (fun z => h z.1))
  · refine c_isBorne (Or.inl rfl) rfl rfl hR hP ?_
    refine bjb (fun h2 => ?_) (fun h2 => ?_)
    · refine c_at rfl rfl ?_
      refine vi (vp_in_nI (by omega) (by omega)) ?_
      rw [nI_clamp (by omega)]
      exact ni rfl (K2 ⟨h, h2⟩)
    · exact ni rfl (K1 (fun z => h2 z.2))
/-- what lies on a place -/
abbrev brs (f : Nat → Int32) (R : Nat) (a : Int32) : Prop := plc (nI R + 1) a ∧ ¬ f (12 * (R + 1) + a.toNatClampNeg) = 0
theorem c_bears {X : Xt} {a : Int32} {R : Nat} {G : Gt} {Q : Qt} (hR : R < 8) (K : Q (some (.int (bI (brs (G 15) R a)))) G) : con X m_Pile_bears [.ref 14, .int (nI R), .int a] G Q := by
  refine con_rn 60 [] (by decide) rfl ?_
  refine c_isPlace ?_
  refine bib (fun h => ?_) (fun h => ?_)
  · exact ni rfl (Qi K (bI_f (fun z => h z.1)).symm)
  · obtain ⟨R1, P, e1, e2, h1, h2⟩ := plcN h
    rw [nI_1, nI_eq (by omega) (by omega)] at e1
    subst e1
    subst e2
    refine c_at (nI_1 R) rfl ?_
    refine vi (vp_in_nI (by omega) (by omega)) ?_
    rw [nI_clamp (by omega)]
    have e3 : (nI P).toNatClampNeg = P := nI_clamp (by omega)
    refine bi (fun h3 => ?_) (fun h3 => ?_)
    · refine ni rfl (Qi K (bI_f (fun z => z.2 ?_)).symm)
      rw [e3]; exact h3
    · refine ni rfl (Qi K (bI_t ⟨h, ?_⟩).symm)
      rw [e3]; exact h3
theorem c_take {X : Xt} {R P : Nat} {G : Gt} {Q : Qt} (hR : R < 8) (hP : P + R < 12) (K1 : ¬ (¬ G 15 (12 * R + P) = 0 ∧ ¬ brs (G 15) R (nI P - 1) ∧ ¬ brs (G 15) R (nI P)) → Q (some (.int 0)) G) (K2 : ¬ G 15 (12 * R + P) = 0 ∧ ¬ brs (G 15) R (nI P - 1) ∧ ¬ brs (G 15) R (nI P) → Q (some (.int 1)) (sG (sG G 15 (upd (G 15) (12 * R + P) 0)) 14 (upd (G 14) 3 (G 14 3 - 1)))) : con X m_Pile_take [.ref 14, .int (nI R), .int (nI P)] G Q := by
  refine con_rn 60 [] (by decide) rfl ?_
  refine c_at rfl rfl ?_
  refine vi (vp_in_nI (by omega) (by omega)) ?_
  rw [nI_clamp (by omega)]
  refine bi (fun h => ?_) (fun h => ?_)
  · exact ni rfl (K1 (fun z => z.1 h))
  · refine c_bears hR ?_
    refine bjb (fun h2 => ?_) (fun h2 => ?_)
    · exact ni rfl (K1 (fun z => z.2.1 h2))
    · refine c_bears hR ?_
      refine bib (fun h3 => ?_) (fun h3 => ?_)
      · refine c_at rfl rfl ?_
        refine vi (vp_in_nI (by omega) (by omega)) ?_
        rw [nI_clamp (by omega)]
        exact ni rfl (K2 ⟨h, h2, h3⟩)
      · exact ni rfl (K1 (fun z => z.2.2 h3))
theorem c_SW_lay {X : Xt} {r p : Int32} {G : Gt} {Q : Qt} (K1 : ¬ plc r p → Q (some (.int (-1000001))) G) (K2 : ∀ R P : Nat, r = nI R → p = nI P → R < 8 → P + R < 12 → ¬ (G 15 (12 * R + P) = 0 ∧ brn (G 15) R P) → Q (some (.int (-1000002))) G) (K3 : ∀ R P : Nat, r = nI R → p = nI P → R < 8 → P + R < 12 → G 15 (12 * R + P) = 0 ∧ brn (G 15) R P → Q (some (.int 1)) (sG (sG G 15 (upd (G 15) (12 * R + P) 1)) 14 (upd (G 14) 3 (G 14 3 + 1)))) : con X m_SW_lay [.ref 0, .int r, .int p] G Q := by
  refine con_rn 60 [] (by decide) rfl ?_
  refine c_isPlace ?_
  refine bjb (fun h => ?_) (fun h => ?_)
  · obtain ⟨R, P, e1, e2, h1, h2⟩ := plcN h
    subst e1
    subst e2
    refine c_add h1 h2 (fun z => ?_) (fun z => ?_)
    · refine bi_t rfl ?_
      exact K2 R P rfl rfl h1 h2 z
    · refine bi_f (by decide) ?_
      exact K3 R P rfl rfl h1 h2 z
  · exact K1 h
theorem c_SW_lift {X : Xt} {r p : Int32} {G : Gt} {Q : Qt} (K1 : ¬ plc r p → Q (some (.int (-1000001))) G) (K2 : ∀ R P : Nat, r = nI R → p = nI P → R < 8 → P + R < 12 → ¬ (¬ G 15 (12 * R + P) = 0 ∧ ¬ brs (G 15) R (nI P - 1) ∧ ¬ brs (G 15) R (nI P)) → Q (some (.int (-1000002))) G) (K3 : ∀ R P : Nat, r = nI R → p = nI P → R < 8 → P + R < 12 → ¬ G 15 (12 * R + P) = 0 ∧ ¬ brs (G 15) R (nI P - 1) ∧ ¬ brs (G 15) R (nI P) → Q (some (.int 1)) (sG (sG G 15 (upd (G 15) (12 * R + P) 0)) 14 (upd (G 14) 3 (G 14 3 - 1)))) : con X m_SW_lift [.ref 0, .int r, .int p] G Q := by
  refine con_rn 60 [] (by decide) rfl ?_
  refine c_isPlace ?_
  refine bjb (fun h => ?_) (fun h => ?_)
  · obtain ⟨R, P, e1, e2, h1, h2⟩ := plcN h
    subst e1
    subst e2
    refine c_take h1 h2 (fun z => ?_) (fun z => ?_)
    · refine bi_t rfl ?_
      exact K2 R P rfl rfl h1 h2 z
    · refine bi_f (by decide) ?_
      exact K3 R P rfl rfl h1 h2 z
  · exact K1 h
