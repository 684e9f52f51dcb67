/-! the quarry: a pure picture. y: yields, n: needs, t: of each sort the bits of the layers that may take of it; m: the bits of filled layers -/
def bey (t m : Nat) : Bool := (t.testBit 0 && !m.testBit 0) || ((t.testBit 1 && !m.testBit 1) || (t.testBit 2 && !m.testBit 2))
def clr (t b : Nat) : Nat := if t.testBit b = true then t - 2 ^ b else t
theorem bey_and : ∀ t, t < 8 → ∀ m, m < 8 → ∀ m1, m1 < 8 → bey t (m &&& m1) = (bey t m || bey t m1) := by decide +kernel
theorem bey_or : ∀ t, t < 8 → ∀ m, m < 8 → ∀ m1, m1 < 8 → bey t (m ||| m1) = true → bey t m = true ∧ bey t m1 = true := by decide +kernel
theorem m_and : ∀ m, m < 8 → ∀ m1, m1 < 8 → m &&& m1 < 8 ∧ m ||| m1 < 8 := by decide +kernel
theorem clr_lt : ∀ t, t < 8 → ∀ b, b < 3 → clr t b < 8 := by decide +kernel
theorem bey_in : ∀ t, t < 8 → ∀ b, b < 3 → ∀ m, m < 8 → m.testBit b = true → bey (clr t b) m = bey t m := by decide +kernel
theorem bey_op' : ∀ t, t < 8 → ∀ b, b < 3 → ∀ m, m < 8 → (!t.testBit b || (m.testBit b || bey t m)) = true := by decide +kernel
theorem bey_op (t : Nat) (ht : t < 8) (b : Nat) (hb : b < 3) (m : Nat) (hm : m < 8) (h1 : t.testBit b = true) (h2 : ¬ m.testBit b = true) : bey t m = true := by
  have := bey_op' t ht b hb m hm
  rw [h1, Bool.eq_false_iff.mpr h2] at this
  simpa using this
theorem bey_4' : ∀ t, t < 8 → ∀ b, b < 3 → ∀ m, m < 8 → ∀ m1, m1 < 8 → (bey (clr t b) m || (!m1.testBit b || !bey t (m ||| m1))) = true := by decide +kernel
theorem bey_4 (t : Nat) (ht : t < 8) (b : Nat) (hb : b < 3) (m : Nat) (hm : m < 8) (h1 : bey (clr t b) m = false) (m1 : Nat) (hm1 : m1 < 8) (h2 : m1.testBit b = true) : bey t (m ||| m1) = false := by
  have := bey_4' t ht b hb m hm m1 hm1
  rw [h1, h2] at this
  simpa using this
theorem bit_2 : ∀ b, b < 3 → 2 ^ b < 8 ∧ (2 ^ b).testBit b = true ∧ ∀ k, k < 3 → k ≠ b → (2 ^ b).testBit k = false := by decide +kernel
def upn (f : Nat → Nat) (k v : Nat) : Nat → Nat := fun j => if j = k then v else f j
theorem upn_s {f : Nat → Nat} {k v : Nat} : upn f k v k = v := if_pos rfl
theorem upn_n {f : Nat → Nat} {k v j : Nat} (h : j ≠ k) : upn f k v j = f j := if_neg h
theorem upn_id (f : Nat → Nat) (k : Nat) : upn f k (f k) = f := by
  funext j
  unfold upn
  split
  · rename_i h; rw [h]
  · rfl
theorem tS_upd {f g : Nat → Nat} {k : Nat} : ∀ {n : Nat}, k < n → (∀ j, j < n → j ≠ k → g j = f j) → tS g n + f k = tS f n + g k
  | 0, h, _ => absurd h (by omega)
  | n + 1, h, hj => by
    have e1 : tS g (n + 1) = tS g n + g n := rfl
    have e2 : tS f (n + 1) = tS f n + f n := rfl
    by_cases e : n = k
    · have : tS g n = tS f n := tS_congr n (fun j q => hj j (by omega) (by omega))
      rw [e1, e2, this, e]
      omega
    · have ih := tS_upd (n := n) (k := k) (by omega) (fun j q => hj j (by omega))
      rw [e1, e2, hj n (by omega) e]
      omega
theorem tS_ge {f g h e x : Nat → Nat} : ∀ {n : Nat}, (∀ j, j < n → h j + e j + x j ≤ f j + g j) → tS h n + tS e n + tS x n ≤ tS f n + tS g n
  | 0, _ => Nat.le_refl _
  | n + 1, hj => by
    have ih := tS_ge (n := n) (fun j q => hj j (by omega))
    have := hj n (by omega)
    show tS h n + h n + (tS e n + e n) + (tS x n + x n) ≤ tS f n + f n + (tS g n + g n)
    omega
theorem tS_one {a Y : Nat} : ∀ {n : Nat}, a < n → tS (fun s => if s = a then Y else 0) n = Y
  | 0, h => absurd h (by omega)
  | n + 1, h => by
    show tS _ n + (if n = a then Y else 0) = Y
    by_cases e : n = a
    · rw [if_pos e]
      have : tS (fun s => if s = a then Y else 0) n = tS (fun _ => 0) n := tS_congr n (fun j hj => if_neg (by omega))
      have z : ∀ k, tS (fun _ => 0) k = 0 := by
        intro k
        induction k with
        | zero => rfl
        | succ k ih => show tS _ k + 0 = 0; rw [ih]
      rw [this, z]
      omega
    · rw [if_neg e, tS_one (n := n) (by omega)]
      rfl
def ndT (n : Nat → Nat) (m : Nat) : Nat → Nat := fun k => if m.testBit k = true then n k else 0
def ylT (y t : Nat → Nat) (m : Nat) : Nat → Nat := fun s => if bey (t s) m = true then y s else 0
/-- what is cut off with the layers of m filled -/
def cutN (y n t : Nat → Nat) (m : Nat) : Nat := tS (ndT n m) 3 + tS (ylT y t m) 4
abbrev TI (t : Nat → Nat) : Prop := ∀ s, s < 4 → t s < 8
abbrev CI (y n t : Nat → Nat) (L : Nat) : Prop := ∀ m, m < 8 → L ≤ cutN y n t m
theorem cut_sub {y n t : Nat → Nat} {a m m1 : Nat} (hT : TI t) (ha : a < 4) (hm : m < 8) (hm1 : m1 < 8) (h1 : bey (t a) m = true) (h2 : bey (t a) m1 = true) (h3 : bey (t a) (m ||| m1) = false) : cutN y n t (m &&& m1) + cutN y n t (m ||| m1) + y a ≤ cutN y n t m + cutN y n t m1 := by
  have e1 : tS (ndT n (m &&& m1)) 3 + tS (ndT n (m ||| m1)) 3 + tS (fun _ => 0) 3 ≤ tS (ndT n m) 3 + tS (ndT n m1) 3 := by
    refine tS_ge (fun k hk => ?_)
    unfold ndT
    rw [Nat.testBit_and, Nat.testBit_or]
    cases m.testBit k <;> cases m1.testBit k <;> simp
  have e2 : tS (ylT y t (m &&& m1)) 4 + tS (ylT y t (m ||| m1)) 4 + tS (fun s => if s = a then y a else 0) 4 ≤ tS (ylT y t m) 4 + tS (ylT y t m1) 4 := by
    refine tS_ge (fun s hs => ?_)
    unfold ylT
    have a1 := bey_and (t s) (hT s hs) m hm m1 hm1
    have a2 := bey_or (t s) (hT s hs) m hm m1 hm1
    by_cases e : s = a
    · subst e
      rw [a1, h1, h2, h3, if_pos rfl]
      simp
    · rw [a1, if_neg e]
      revert a2
      cases bey (t s) m <;> cases bey (t s) m1 <;> cases bey (t s) (m ||| m1) <;> simp
  rw [tS_one ha] at e2
  unfold cutN
  omega
/-- how a cut changes by a part v from a to b -/
theorem cut_rel {y n t : Nat → Nat} {a b v m : Nat} (hT : TI t) (ha : a < 4) (hb : b < 3) (hm : m < 8) (ho : (t a).testBit b = true) (hy : v ≤ y a) (hn : v ≤ n b) : (m.testBit b = true ∧ bey (t a) m = true ∧ cutN (upn y a (y a - v)) (upn n b (n b - v)) (upn t a (clr (t a) b)) m + 2 * v = cutN y n t m) ∨ (m.testBit b = true ∧ bey (t a) m = false ∧ cutN (upn y a (y a - v)) (upn n b (n b - v)) (upn t a (clr (t a) b)) m + v = cutN y n t m) ∨ (¬ m.testBit b = true ∧ bey (t a) m = true ∧ bey (clr (t a) b) m = true ∧ cutN (upn y a (y a - v)) (upn n b (n b - v)) (upn t a (clr (t a) b)) m + v = cutN y n t m) ∨ (¬ m.testBit b = true ∧ bey (t a) m = true ∧ bey (clr (t a) b) m = false ∧ cutN (upn y a (y a - v)) (upn n b (n b - v)) (upn t a (clr (t a) b)) m + y a = cutN y n t m) := by
  have e1 := tS_upd (f := ndT n m) (g := ndT (upn n b (n b - v)) m) (k := b) (n := 3) hb (fun j _ hj => by unfold ndT; rw [upn_n hj])
  have e2 := tS_upd (f := ylT y t m) (g := ylT (upn y a (y a - v)) (upn t a (clr (t a) b)) m) (k := a) (n := 4) ha (fun j _ hj => by unfold ylT; rw [upn_n hj, upn_n hj])
  have g1 : ndT n m b = if m.testBit b = true then n b else 0 := rfl
  have g2 : ndT (upn n b (n b - v)) m b = if m.testBit b = true then n b - v else 0 := by unfold ndT; rw [upn_s]
  have g3 : ylT y t m a = if bey (t a) m = true then y a else 0 := rfl
  have g4 : ylT (upn y a (y a - v)) (upn t a (clr (t a) b)) m a = if bey (clr (t a) b) m = true then y a - v else 0 := by unfold ylT; rw [upn_s, upn_s]
  unfold cutN
  generalize tS (ndT (upn n b (n b - v)) m) 3 = A1 at *
  generalize tS (ylT (upn y a (y a - v)) (upn t a (clr (t a) b)) m) 4 = A2 at *
  generalize tS (ndT n m) 3 = B1 at *
  generalize tS (ylT y t m) 4 = B2 at *
  rw [g1, g2] at e1
  rw [g3, g4] at e2
  by_cases hmb : m.testBit b = true
  · rw [if_pos hmb, if_pos hmb] at e1
    rw [bey_in (t a) (hT a ha) b hb m hm hmb] at e2
    cases hbe : bey (t a) m
    · rw [hbe] at e2
      simp at e2
      exact Or.inr (Or.inl ⟨hmb, rfl, by omega⟩)
    · rw [hbe] at e2
      simp at e2
      exact Or.inl ⟨hmb, rfl, by omega⟩
  · rw [if_neg hmb, if_neg hmb] at e1
    have hbe := bey_op (t a) (hT a ha) b hb m hm ho hmb
    rw [hbe] at e2
    cases hc : bey (clr (t a) b) m
    · rw [hc] at e2
      simp at e2
      exact Or.inr (Or.inr (Or.inr ⟨hmb, hbe, rfl, by omega⟩))
    · rw [hc] at e2
      simp at e2
      exact Or.inr (Or.inr (Or.inl ⟨hmb, hbe, rfl, by omega⟩))
/-- the most between a and b -/
def hiP (y n t : Nat → Nat) (a b L v : Nat) : Prop := (v ≤ y a ∧ v ≤ n b) ∧ (∀ m, m < 8 → m.testBit b = true → bey (t a) m = true → v + L ≤ cutN y n t m) ∧ (v = y a ∨ v = n b ∨ ∃ m, m < 8 ∧ m.testBit b = true ∧ bey (t a) m = true ∧ v + L = cutN y n t m)
theorem key_1 {y n t : Nat → Nat} {a b L v : Nat} (hT : TI t) (hC : CI y n t L) (ha : a < 4) (hb : b < 3) (ho : (t a).testBit b = true) (hv : hiP y n t a b L v) : ∀ m, m < 8 → L ≤ cutN (upn y a (y a - v)) (upn n b (n b - v)) (upn t a (clr (t a) b)) m + v := by
  intro m hm
  obtain ⟨⟨v1, v2⟩, v3, v4⟩ := hv
  have hL := hC m hm
  rcases cut_rel (v := v) hT ha hb hm ho v1 v2 with ⟨q1, q2, q3⟩ | ⟨q1, q2, q3⟩ | ⟨q1, q2, q3, q4⟩ | ⟨q1, q2, q3, q4⟩
  · have := v3 m hm q1 q2
    omega
  · omega
  · omega
  · rcases v4 with e | e | ⟨m1, w1, w2, w3, w4⟩
    · omega
    · obtain ⟨b1, b2, b3⟩ := bit_2 b hb
      have hor := (m_and m hm (2 ^ b) b1).2
      have hL2 := hC (m ||| 2 ^ b) hor
      have h4 := bey_4 (t a) (hT a ha) b hb m hm q3 (2 ^ b) b1 b2
      have e1 : tS (ndT n (m ||| 2 ^ b)) 3 + 0 = tS (ndT n m) 3 + n b := by
        have := tS_upd (f := ndT n m) (g := ndT n (m ||| 2 ^ b)) (k := b) (n := 3) hb (fun j hj hne => by unfold ndT; rw [Nat.testBit_or, b3 j hj hne, Bool.or_false])
        have f1 : ndT n m b = 0 := if_neg q1
        have f2 : ndT n (m ||| 2 ^ b) b = n b := by unfold ndT; rw [Nat.testBit_or, b2, Bool.or_true, if_pos rfl]
        rw [f1, f2] at this
        exact this
      have e2 : tS (ylT y t (m ||| 2 ^ b)) 4 + tS (fun s => if s = a then y a else 0) 4 + tS (fun _ => 0) 4 ≤ tS (ylT y t m) 4 + tS (fun _ => 0) 4 := by
        refine tS_ge (fun s hs => ?_)
        unfold ylT
        have a2 := bey_or (t s) (hT s hs) m hm (2 ^ b) b1
        by_cases es : s = a
        · subst es
          rw [h4, q2, if_pos rfl]
          simp
        · rw [if_neg es]
          revert a2
          cases bey (t s) m <;> cases bey (t s) (m ||| 2 ^ b) <;> simp
      rw [tS_one ha] at e2
      unfold cutN at hL2 q4 ⊢
      omega
    · have h4 := bey_4 (t a) (hT a ha) b hb m hm q3 m1 w1 w2
      have hs := cut_sub (y := y) (n := n) hT ha hm w1 q2 w3 h4
      have l1 := hC (m &&& m1) (m_and m hm m1 w1).1
      have l2 := hC (m ||| m1) (m_and m hm m1 w1).2
      omega
theorem key_2 {y n t : Nat → Nat} {a b L v v' : Nat} (hT : TI t) (ha : a < 4) (hb : b < 3) (ho : (t a).testBit b = true) (hv : hiP y n t a b L v) (h1 : v < v') (h2 : v' ≤ y a) (h3 : v' ≤ n b) : ∃ m, m < 8 ∧ cutN (upn y a (y a - v')) (upn n b (n b - v')) (upn t a (clr (t a) b)) m + v' < L := by
  obtain ⟨⟨v1, v2⟩, v3, v4⟩ := hv
  rcases v4 with e | e | ⟨m1, w1, w2, w3, w4⟩
  · omega
  · omega
  · refine ⟨m1, w1, ?_⟩
    rcases cut_rel (v := v') hT ha hb w1 ho h2 h3 with ⟨q1, q2, q3⟩ | ⟨q1, q2, q3⟩ | ⟨q1, q2, q3, q4⟩ | ⟨q1, q2, q3, q4⟩
    · omega
    · rw [w3] at q2; cases q2
    · exact absurd w2 q1
    · exact absurd w2 q1
def mn2 (x y : Nat) : Nat := if y < x then y else x
theorem mn2_le (x y : Nat) : mn2 x y ≤ x ∧ mn2 x y ≤ y ∧ (mn2 x y = x ∨ mn2 x y = y) := by
  unfold mn2
  split <;> omega
def mnH (y n t : Nat → Nat) (a b L : Nat) : Nat → Nat
  | 0 => mn2 (y a) (n b)
  | i + 1 => if i.testBit b = true ∧ bey (t a) i = true then mn2 (mnH y n t a b L i) (cutN y n t i - L) else mnH y n t a b L i
def hiF (y n t : Nat → Nat) (a b L : Nat) : Nat := if (t a).testBit b = true then mnH y n t a b L 8 else 0
theorem mnH_P {y n t : Nat → Nat} {a b L : Nat} (hC : CI y n t L) : ∀ i, i ≤ 8 → (mnH y n t a b L i ≤ y a ∧ mnH y n t a b L i ≤ n b) ∧ (∀ m, m < i → m.testBit b = true → bey (t a) m = true → mnH y n t a b L i + L ≤ cutN y n t m) ∧ (mnH y n t a b L i = y a ∨ mnH y n t a b L i = n b ∨ ∃ m, m < i ∧ m.testBit b = true ∧ bey (t a) m = true ∧ mnH y n t a b L i + L = cutN y n t m)
  | 0, _ => by
    have := mn2_le (y a) (n b)
    refine ⟨⟨this.1, this.2.1⟩, fun m hm => absurd hm (by omega), ?_⟩
    rcases this.2.2 with h | h
    · exact Or.inl h
    · exact Or.inr (Or.inl h)
  | i + 1, hi => by
    obtain ⟨⟨p1, p2⟩, p3, p4⟩ := mnH_P hC (a := a) (b := b) i (by omega)
    by_cases hc : i.testBit b = true ∧ bey (t a) i = true
    · have e : mnH y n t a b L (i + 1) = mn2 (mnH y n t a b L i) (cutN y n t i - L) := by rw [mnH, if_pos hc]
      have q := mn2_le (mnH y n t a b L i) (cutN y n t i - L)
      have hL := hC i (by omega)
      rw [e]
      refine ⟨⟨by omega, by omega⟩, fun m hm h1 h2 => ?_, ?_⟩
      · rcases Nat.lt_succ_iff_lt_or_eq.mp hm with z | z
        · have := p3 m z h1 h2
          omega
        · rw [z]; omega
      · rcases q.2.2 with z | z
        · rw [z]
          rcases p4 with w | w | ⟨m, w1, w2⟩
          · exact Or.inl w
          · exact Or.inr (Or.inl w)
          · exact Or.inr (Or.inr ⟨m, by omega, w2⟩)
        · exact Or.inr (Or.inr ⟨i, by omega, hc.1, hc.2, by omega⟩)
    · have e : mnH y n t a b L (i + 1) = mnH y n t a b L i := by rw [mnH, if_neg hc]
      rw [e]
      refine ⟨⟨p1, p2⟩, fun m hm h1 h2 => ?_, ?_⟩
      · rcases Nat.lt_succ_iff_lt_or_eq.mp hm with z | z
        · exact p3 m z h1 h2
        · rw [z] at h1 h2; exact absurd ⟨h1, h2⟩ hc
      · rcases p4 with w | w | ⟨m, w1, w2⟩
        · exact Or.inl w
        · exact Or.inr (Or.inl w)
        · exact Or.inr (Or.inr ⟨m, by omega, w2⟩)
theorem hiF_P {y n t : Nat → Nat} {a b L : Nat} (hC : CI y n t L) (ho : (t a).testBit b = true) : hiP y n t a b L (hiF y n t a b L) := by
  unfold hiF
  rw [if_pos ho]
  exact mnH_P hC 8 (Nat.le_refl _)
/-- the state of the sharing: yields, needs, takers, what is left to give -/
abbrev Sq : Type := (Nat → Nat) × (Nat → Nat) × (Nat → Nat) × Nat
def vQ (S : Sq) (i : Nat) : Nat := hiF S.1 S.2.1 S.2.2.1 (i / 3) (i % 3) S.2.2.2
def stQ (S : Sq) (i : Nat) : Sq := (upn S.1 (i / 3) (S.1 (i / 3) - vQ S i), upn S.2.1 (i % 3) (S.2.1 (i % 3) - vQ S i), upn S.2.2.1 (i / 3) (clr (S.2.2.1 (i / 3)) (i % 3)), S.2.2.2 - vQ S i)
def shQ (S : Sq) : Nat → Sq
  | 0 => S
  | i + 1 => stQ (shQ S i) i
def PQ (S : Sq) : Prop := ((∀ s, s < 4 → S.1 s ≤ 100) ∧ ∀ k, k < 3 → S.2.1 k ≤ 100) ∧ TI S.2.2.1 ∧ S.2.2.2 ≤ 100 ∧ CI S.1 S.2.1 S.2.2.1 S.2.2.2
theorem vQ_le {S : Sq} {i : Nat} (hP : PQ S) : vQ S i ≤ S.1 (i / 3) ∧ vQ S i ≤ S.2.1 (i % 3) := by
  unfold vQ
  by_cases ho : (S.2.2.1 (i / 3)).testBit (i % 3) = true
  · exact (hiF_P hP.2.2.2 ho).1
  · unfold hiF
    rw [if_neg ho]
    exact ⟨Nat.zero_le _, Nat.zero_le _⟩
theorem vQ_L {S : Sq} {i : Nat} (hi : i < 12) (hP : PQ S) : ∀ m, m < 8 → S.2.2.2 ≤ cutN (upn S.1 (i / 3) (S.1 (i / 3) - vQ S i)) (upn S.2.1 (i % 3) (S.2.1 (i % 3) - vQ S i)) (upn S.2.2.1 (i / 3) (clr (S.2.2.1 (i / 3)) (i % 3))) m + vQ S i := by
  by_cases ho : (S.2.2.1 (i / 3)).testBit (i % 3) = true
  · exact key_1 hP.2.1 hP.2.2.2 (by omega) (by omega) ho (hiF_P hP.2.2.2 ho)
  · have e : vQ S i = 0 := by unfold vQ hiF; rw [if_neg ho]
    intro m hm
    have e2 : clr (S.2.2.1 (i / 3)) (i % 3) = S.2.2.1 (i / 3) := if_neg ho
    rw [e, e2, Nat.sub_zero, Nat.sub_zero, upn_id, upn_id, upn_id]
    exact hP.2.2.2 m hm
theorem PQ_st {S : Sq} {i : Nat} (hi : i < 12) (hP : PQ S) : PQ (stQ S i) := by
  have hL := vQ_L hi hP
  obtain ⟨⟨p1, p2⟩, p3, p4, p5⟩ := hP
  refine ⟨⟨fun s hs => ?_, fun k hk => ?_⟩, fun s hs => ?_, ?_, fun m hm => ?_⟩
  · show upn _ _ _ s ≤ 100
    unfold upn
    split
    · have := p1 (i / 3) (by omega)
      omega
    · exact p1 s hs
  · show upn _ _ _ k ≤ 100
    unfold upn
    split
    · have := p2 (i % 3) (by omega)
      omega
    · exact p2 k hk
  · show upn _ _ _ s < 8
    unfold upn
    split
    · exact clr_lt _ (p3 (i / 3) (by omega)) _ (by omega)
    · exact p3 s hs
  · show S.2.2.2 - _ ≤ 100
    omega
  · have := hL m hm
    show S.2.2.2 - vQ S i ≤ cutN (upn S.1 (i / 3) (S.1 (i / 3) - vQ S i)) (upn S.2.1 (i % 3) (S.2.1 (i % 3) - vQ S i)) (upn S.2.2.1 (i / 3) (clr (S.2.2.1 (i / 3)) (i % 3))) m
    omega
theorem PQ_sh {S : Sq} (hP : PQ S) : ∀ i, i ≤ 12 → PQ (shQ S i)
  | 0, _ => hP
  | i + 1, hi => PQ_st (by omega) (PQ_sh hP i (by omega))
theorem cutN_b {y n t : Nat → Nat} (h1 : ∀ s, s < 4 → y s ≤ 100) (h2 : ∀ k, k < 3 → n k ≤ 100) (m : Nat) : cutN y n t m ≤ 700 := by
  have a0 := h1 0 (by omega)
  have a1 := h1 1 (by omega)
  have a2 := h1 2 (by omega)
  have a3 := h1 3 (by omega)
  have b0 := h2 0 (by omega)
  have b1 := h2 1 (by omega)
  have b2 := h2 2 (by omega)
  have nd : ∀ k, ndT n m k ≤ n k := fun k => by unfold ndT; split <;> omega
  have yl : ∀ s, ylT y t m s ≤ y s := fun s => by unfold ylT; split <;> omega
  have c0 := nd 0
  have c1 := nd 1
  have c2 := nd 2
  have d0 := yl 0
  have d1 := yl 1
  have d2 := yl 2
  have d3 := yl 3
  show (0 + ndT n m 0 + ndT n m 1 + ndT n m 2) + (0 + ylT y t m 0 + ylT y t m 1 + ylT y t m 2 + ylT y t m 3) ≤ 700
  omega
/-- the least cut: of the class, of the model -/
def mnX (y n t : Nat → Nat) : Nat → Nat
  | 0 => 100
  | i + 1 => mn2 (mnX y n t i) (cutN y n t i)
def mnM (y n t : Nat → Nat) : Nat → Nat
  | 0 => 1000
  | i + 1 => if cutN y n t (7 - i) < mnM y n t i then cutN y n t (7 - i) else mnM y n t i
theorem mnX_P (y n t : Nat → Nat) : ∀ i, i ≤ 8 → mnX y n t i ≤ 100 ∧ (∀ m, m < i → mnX y n t i ≤ cutN y n t m) ∧ (mnX y n t i = 100 ∨ ∃ m, m < i ∧ mnX y n t i = cutN y n t m)
  | 0, _ => ⟨Nat.le_refl _, fun m hm => absurd hm (by omega), Or.inl rfl⟩
  | i + 1, hi => by
    obtain ⟨p1, p2, p3⟩ := mnX_P y n t i (by omega)
    have q := mn2_le (mnX y n t i) (cutN y n t i)
    have e : mnX y n t (i + 1) = mn2 (mnX y n t i) (cutN y n t i) := rfl
    rw [e]
    refine ⟨by omega, fun m hm => ?_, ?_⟩
    · rcases Nat.lt_succ_iff_lt_or_eq.mp hm with z | z
      · have := p2 m z
        omega
      · rw [z]; omega
    · rcases q.2.2 with z | z
      · rw [z]
        rcases p3 with w | ⟨m, w1, w2⟩
        · exact Or.inl w
        · exact Or.inr ⟨m, by omega, w2⟩
      · exact Or.inr ⟨i, by omega, z⟩
theorem mnM_P (y n t : Nat → Nat) : ∀ i, i ≤ 8 → mnM y n t i ≤ 1000 ∧ (∀ m, m < 8 → 7 - m < i → mnM y n t i ≤ cutN y n t m) ∧ (mnM y n t i = 1000 ∨ ∃ m, m < 8 ∧ mnM y n t i = cutN y n t m)
  | 0, _ => ⟨Nat.le_refl _, fun m hm h => absurd h (by omega), Or.inl rfl⟩
  | i + 1, hi => by
    obtain ⟨p1, p2, p3⟩ := mnM_P y n t i (by omega)
    have e : mnM y n t (i + 1) = if cutN y n t (7 - i) < mnM y n t i then cutN y n t (7 - i) else mnM y n t i := rfl
    rw [e]
    split
    · rename_i hlt
      refine ⟨by omega, fun m hm h => ?_, Or.inr ⟨7 - i, by omega, rfl⟩⟩
      by_cases z : 7 - m = i
      · rw [show m = 7 - i by omega]; exact Nat.le_refl _
      · have := p2 m hm (by omega)
        omega
    · rename_i hlt
      refine ⟨p1, fun m hm h => ?_, p3⟩
      by_cases z : 7 - m = i
      · rw [show m = 7 - i by omega]; omega
      · exact p2 m hm (by omega)
theorem mn_eq {y n t : Nat → Nat} (hy : tS y 4 = 100) (h0 : ∀ m, m < 8 → cutN y n t m ≤ 700) : mnM y n t 8 = mnX y n t 8 := by
  obtain ⟨p1, p2, p3⟩ := mnX_P y n t 8 (Nat.le_refl _)
  obtain ⟨q1, q2, q3⟩ := mnM_P y n t 8 (Nat.le_refl _)
  have hc0 : cutN y n t 0 ≤ 100 := by
    have nd : ∀ k, ndT n 0 k = 0 := fun k => by unfold ndT; rw [Nat.zero_testBit]; rfl
    have yl : ∀ s, ylT y t 0 s ≤ y s := fun s => by unfold ylT; split <;> omega
    have d0 := yl 0
    have d1 := yl 1
    have d2 := yl 2
    have d3 := yl 3
    have e : tS y 4 = 0 + y 0 + y 1 + y 2 + y 3 := rfl
    show (0 + ndT n 0 0 + ndT n 0 1 + ndT n 0 2) + (0 + ylT y t 0 0 + ylT y t 0 1 + ylT y t 0 2 + ylT y t 0 3) ≤ 100
    rw [nd, nd, nd]
    omega
  have a1 : mnM y n t 8 ≤ mnX y n t 8 := by
    rcases p3 with w | ⟨m, w1, w2⟩
    · have := q2 0 (by omega) (by omega)
      omega
    · rw [w2]; exact q2 m w1 (by omega)
  have a2 : mnX y n t 8 ≤ mnM y n t 8 := by
    rcases q3 with w | ⟨m, w1, w2⟩
    · omega
    · rw [w2]; exact p2 m w1
  omega
