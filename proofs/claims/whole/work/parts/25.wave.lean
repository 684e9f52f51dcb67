/-! waves -/
theorem abI_toInt {x : Int32} (h : -2147483648 < x.toInt) : (abI x).toInt = if 0 ≤ x.toInt then x.toInt else -x.toInt := by
  unfold abI
  by_cases h1 : 0 ≤ x
  · have h2 : 0 ≤ x.toInt := by simpa using le32.mp h1
    rw [if_pos h1, if_pos h2]
  · have h2 : ¬ 0 ≤ x.toInt := fun z => h1 (by rw [le32]; simpa using z)
    have h3 := rng x
    rw [if_neg h1, if_neg h2, subI (by simp; omega) (by simp; omega)]
    simp
/-- the harbour's measures, as they may be -/
def hbOK (w h b : Int32) : Prop := (1 ≤ w ∧ w ≤ 50) ∧ (1 ≤ h ∧ h ≤ 50) ∧ 0 ≤ b ∧ b ≤ 10
/-- how far, from the image a - k of 2 .. w -/
def fr (w x : Int32) (k a : Nat) : Int32 := abI (x - 2 * (nI a - nI k) * w)
theorem ik_toInt {k a : Nat} (hk : k ≤ 4) (ha : a ≤ 9) : (nI a - nI k).toInt = (a : Int) - k := by
  rw [subI (by rw [nI_toInt (by omega), nI_toInt (by omega)]; omega) (by rw [nI_toInt (by omega), nI_toInt (by omega)]; omega), nI_toInt (by omega), nI_toInt (by omega)]
theorem fr_rng {w x : Int32} {k a : Nat} (hk : k ≤ 4) (ha : a ≤ 2 * k) (hw : 1 ≤ w ∧ w ≤ 50) (hx : 0 ≤ x ∧ x ≤ 50) : 0 ≤ (fr w x k a).toInt ∧ (fr w x k a).toInt ≤ 450 := by
  have w1 : 1 ≤ w.toInt := by simpa using le32.mp hw.1
  have w2 : w.toInt ≤ 50 := by simpa using le32.mp hw.2
  have x1 : 0 ≤ x.toInt := by simpa using le32.mp hx.1
  have x2 : x.toInt ≤ 50 := by simpa using le32.mp hx.2
  have e1 := ik_toInt (k := k) (a := a) hk (by omega)
  have e2 : (2 * (nI a - nI k)).toInt = 2 * ((a : Int) - k) := by
    rw [mulI (by rw [e1]; simp; omega) (by rw [e1]; simp; omega), e1]; simp
  have b1 : -8 ≤ 2 * ((a : Int) - k) := by omega
  have b2 : 2 * ((a : Int) - k) ≤ 8 := by omega
  generalize 2 * ((a : Int) - k) = z at *
  have m1 : z * w.toInt ≤ 400 := by
    rcases Int.le_total 0 z with q | q
    · calc z * w.toInt ≤ 8 * 50 := Int.mul_le_mul b2 w2 (by omega) (by omega)
        _ = 400 := rfl
    · have := Int.mul_nonneg (show 0 ≤ -z by omega) (show 0 ≤ w.toInt by omega)
      rw [Int.neg_mul] at this
      omega
  have m2 : -400 ≤ z * w.toInt := by
    rcases Int.le_total 0 z with q | q
    · have := Int.mul_nonneg q (show 0 ≤ w.toInt by omega)
      omega
    · have : -z * w.toInt ≤ 8 * 50 := Int.mul_le_mul (by omega) w2 (by omega) (by omega)
      rw [Int.neg_mul] at this
      omega
  have e3 : (2 * (nI a - nI k) * w).toInt = z * w.toInt := by
    rw [mulI (by rw [e2]; omega) (by rw [e2]; omega), e2]
  have e4 : (x - 2 * (nI a - nI k) * w).toInt = x.toInt - z * w.toInt := by
    rw [subI (by rw [e3]; omega) (by rw [e3]; omega), e3]
  unfold fr
  rw [abI_toInt (by rw [e4]; omega), e4]
  split <;> omega
/-- what one image gives -/
def wt (w h b s x y : Int32) (k a c : Nat) (n : Nat) : Int32 := bnc b s n / (1 + (fr w x k a + fr h y k c))
theorem fr_div {w h x y : Int32} {k a c : Nat} (hk : k ≤ 4) (ha : a ≤ 2 * k) (hc : c ≤ 2 * k) (hw : 1 ≤ w ∧ w ≤ 50) (hh : 1 ≤ h ∧ h ≤ 50) (hx : 0 ≤ x ∧ x ≤ 50) (hy : 0 ≤ y ∧ y ≤ 50) : ¬ 1 + (fr w x k a + fr h y k c) = 0 := by
  have h1 := fr_rng hk ha hw hx
  have h2 := fr_rng hk hc hh hy
  rw [eq32]
  have e1 : (fr w x k a + fr h y k c).toInt = (fr w x k a).toInt + (fr h y k c).toInt := addI (by omega) (by omega)
  rw [addI (by rw [e1]; simp; omega) (by rw [e1]; simp; omega), e1]
  simp
  omega
/-- how often it has bounced: 2 |a - k| and 2 |c - k| -/
def bN (k a c : Nat) : Nat := 2 * (if k ≤ a then a - k else k - a) + 2 * (if k ≤ c then c - k else k - c)
theorem bN_eq {k a c : Nat} (hk : k ≤ 4) (ha : a ≤ 9) (hc : c ≤ 9) : 2 * abI (nI a - nI k) + 2 * abI (nI c - nI k) = nI (bN k a c) ∧ bN k a c ≤ 100 := by
  have hb : bN k a c ≤ 100 := by
    unfold bN
    split <;> split <;> omega
  refine ⟨?_, hb⟩
  have e1 := ik_toInt (k := k) (a := a) hk ha
  have e2 := ik_toInt (k := k) (a := c) hk hc
  have f1 := abI_toInt (x := nI a - nI k) (by rw [e1]; omega)
  have f2 := abI_toInt (x := nI c - nI k) (by rw [e2]; omega)
  rw [e1] at f1
  rw [e2] at f2
  have g1 : (2 * abI (nI a - nI k)).toInt = 2 * (abI (nI a - nI k)).toInt := by
    rw [mulI (by rw [f1]; split <;> simp <;> omega) (by rw [f1]; split <;> simp <;> omega)]; simp
  have g2 : (2 * abI (nI c - nI k)).toInt = 2 * (abI (nI c - nI k)).toInt := by
    rw [mulI (by rw [f2]; split <;> simp <;> omega) (by rw [f2]; split <;> simp <;> omega)]; simp
  rw [eq32, nI_toInt (by omega)]
  rw [addI (by rw [g1, g2, f1, f2]; split <;> split <;> omega) (by rw [g1, g2, f1, f2]; split <;> split <;> omega), g1, g2, f1, f2]
  unfold bN
  split <;> split <;> split <;> split <;> omega
