/-- an entry of the instruction tables is what the bytes say -/
def dOK (b : ByteArray) (en : En) : Bool := decide (decode b en.1 = .ok (en.2.1, en.2.2.1 - en.1)) && Nat.blt en.1 en.2.2.1
theorem dk_0 : (List.range' 0 17).all (fun i => (iT i).all (dOK (mB i))) = true := by decide +kernel
theorem dk_1 : (List.range' 17 20).all (fun i => (iT i).all (dOK (mB i))) = true := by decide +kernel
theorem dk_2 : (List.range' 37 6).all (fun i => (iT i).all (dOK (mB i))) = true := by decide +kernel
theorem dk_3 : (List.range' 43 8).all (fun i => (iT i).all (dOK (mB i))) = true := by decide +kernel
theorem dk_4 : (List.range' 51 15).all (fun i => (iT i).all (dOK (mB i))) = true := by decide +kernel
theorem dk_5 : (List.range' 66 6).all (fun i => (iT i).all (dOK (mB i))) = true := by decide +kernel
theorem dk_6 : (List.range' 72 8).all (fun i => (iT i).all (dOK (mB i))) = true := by decide +kernel
theorem dk_7 : (List.range' 80 6).all (fun i => (iT i).all (dOK (mB i))) = true := by decide +kernel
theorem dk_8 : (List.range' 86 8).all (fun i => (iT i).all (dOK (mB i))) = true := by decide +kernel
theorem dk_9 : (List.range' 94 18).all (fun i => (iT i).all (dOK (mB i))) = true := by decide +kernel
theorem dk_10 : (List.range' 112 12).all (fun i => (iT i).all (dOK (mB i))) = true := by decide +kernel
theorem dk_11 : (List.range' 124 6).all (fun i => (iT i).all (dOK (mB i))) = true := by decide +kernel
theorem dk_12 : (List.range' 130 6).all (fun i => (iT i).all (dOK (mB i))) = true := by decide +kernel
theorem dk_13 : (List.range' 136 1).all (fun i => (iT i).all (dOK (mB i))) = true := by decide +kernel
theorem dk_14 : (List.range' 137 8).all (fun i => (iT i).all (dOK (mB i))) = true := by decide +kernel
theorem dk_15 : (List.range' 145 5).all (fun i => (iT i).all (dOK (mB i))) = true := by decide +kernel
theorem dk_16 : (List.range' 150 5).all (fun i => (iT i).all (dOK (mB i))) = true := by decide +kernel
theorem dk_17 : (List.range' 155 1).all (fun i => (iT i).all (dOK (mB i))) = true := by decide +kernel
theorem dk_18 : (List.range' 156 1).all (fun i => (iT i).all (dOK (mB i))) = true := by decide +kernel
theorem dk_19 : (List.range' 157 6).all (fun i => (iT i).all (dOK (mB i))) = true := by decide +kernel
theorem dk_20 : (List.range' 163 9).all (fun i => (iT i).all (dOK (mB i))) = true := by decide +kernel
theorem dk_21 : (List.range' 172 2).all (fun i => (iT i).all (dOK (mB i))) = true := by decide +kernel
theorem dk_law_0 : t_StoneWorksLaw_law_0.all (dOK (mB 174)) = true := by decide +kernel
theorem dk_law_1 : t_StoneWorksLaw_law_1.all (dOK (mB 174)) = true := by decide +kernel
theorem dk_law_2 : t_StoneWorksLaw_law_2.all (dOK (mB 174)) = true := by decide +kernel
theorem dk_law_3 : t_StoneWorksLaw_law_3.all (dOK (mB 174)) = true := by decide +kernel
theorem dk_law_4 : t_StoneWorksLaw_law_4.all (dOK (mB 174)) = true := by decide +kernel
theorem dk_law_5 : t_StoneWorksLaw_law_5.all (dOK (mB 174)) = true := by decide +kernel
theorem dk_law_6 : t_StoneWorksLaw_law_6.all (dOK (mB 174)) = true := by decide +kernel
theorem dk_law_7 : t_StoneWorksLaw_law_7.all (dOK (mB 174)) = true := by decide +kernel
theorem dk_law_8 : t_StoneWorksLaw_law_8.all (dOK (mB 174)) = true := by decide +kernel
theorem dk_law : (iT 174).all (dOK (mB 174)) = true := by
  show (t_StoneWorksLaw_law_0 ++ (t_StoneWorksLaw_law_1 ++ (t_StoneWorksLaw_law_2 ++ (t_StoneWorksLaw_law_3 ++ (t_StoneWorksLaw_law_4 ++ (t_StoneWorksLaw_law_5 ++ (t_StoneWorksLaw_law_6 ++ (t_StoneWorksLaw_law_7 ++ (t_StoneWorksLaw_law_8))))))))).all (dOK (mB 174)) = true
  simp only [List.all_append, Bool.and_eq_true]
  exact ⟨dk_law_0, dk_law_1, dk_law_2, dk_law_3, dk_law_4, dk_law_5, dk_law_6, dk_law_7, dk_law_8⟩
theorem dk_all {i : Nat} {en : En} (h : en ∈ iT i) : decode (mB i) en.1 = .ok (en.2.1, en.2.2.1 - en.1) ∧ en.1 < en.2.2.1 := by
  have key : ∀ {a n : Nat}, (List.range' a n).all (fun i => (iT i).all (dOK (mB i))) = true → a ≤ i → i < a + n → (iT i).all (dOK (mB i)) = true := fun hh h1 h2 => List.all_eq_true.mp hh i (List.mem_range'_1.mpr ⟨h1, h2⟩)
  have h0 : (iT i).all (dOK (mB i)) = true := by
    by_cases q0 : i < 17
    · exact key dk_0 (by omega) (by omega)
    by_cases q1 : i < 37
    · exact key dk_1 (by omega) (by omega)
    by_cases q2 : i < 43
    · exact key dk_2 (by omega) (by omega)
    by_cases q3 : i < 51
    · exact key dk_3 (by omega) (by omega)
    by_cases q4 : i < 66
    · exact key dk_4 (by omega) (by omega)
    by_cases q5 : i < 72
    · exact key dk_5 (by omega) (by omega)
    by_cases q6 : i < 80
    · exact key dk_6 (by omega) (by omega)
    by_cases q7 : i < 86
    · exact key dk_7 (by omega) (by omega)
    by_cases q8 : i < 94
    · exact key dk_8 (by omega) (by omega)
    by_cases q9 : i < 112
    · exact key dk_9 (by omega) (by omega)
    by_cases q10 : i < 124
    · exact key dk_10 (by omega) (by omega)
    by_cases q11 : i < 130
    · exact key dk_11 (by omega) (by omega)
    by_cases q12 : i < 136
    · exact key dk_12 (by omega) (by omega)
    by_cases q13 : i < 137
    · exact key dk_13 (by omega) (by omega)
    by_cases q14 : i < 145
    · exact key dk_14 (by omega) (by omega)
    by_cases q15 : i < 150
    · exact key dk_15 (by omega) (by omega)
    by_cases q16 : i < 155
    · exact key dk_16 (by omega) (by omega)
    by_cases q17 : i < 156
    · exact key dk_17 (by omega) (by omega)
    by_cases q18 : i < 157
    · exact key dk_18 (by omega) (by omega)
    by_cases q19 : i < 163
    · exact key dk_19 (by omega) (by omega)
    by_cases q20 : i < 172
    · exact key dk_20 (by omega) (by omega)
    by_cases q21 : i < 174
    · exact key dk_21 (by omega) (by omega)
    by_cases ql : i = 174
    · rw [ql]; exact dk_law
    · have e : iT i = [] := by
        unfold iT
        rw [List.getD_eq_getElem?_getD, List.getElem?_eq_none (show iTs.length ≤ i from (show iTs.length = 175 from rfl) ▸ (by omega))]
        rfl
      rw [e]; rfl
  have h1 := List.all_eq_true.mp h0 en h
  simp only [dOK, Bool.and_eq_true, decide_eq_true_eq] at h1
  exact ⟨h1.1, Nat.lt_of_succ_le (by have := h1.2; simpa [Nat.blt] using this)⟩
