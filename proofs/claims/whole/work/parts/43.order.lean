/-! the order of laying: a pure picture -/
def stn (L nr : Nat → Nat → Bool) : Nat → Nat → Bool
  | 0, p => L 0 p || nr 0 p
  | r + 1, p => L (r + 1) p || (nr (r + 1) p && (stn L nr r p && stn L nr r (p + 1)))
/-- what a place is on -/
def onB (L nr : Nat → Nat → Bool) (r p : Nat) : Bool := decide (r = 0) || (stn L nr (r - 1) p && stn L nr (r - 1) (p + 1))
def due (L nr : Nat → Nat → Bool) (r p : Nat) : Bool := !L r p && (nr r p && onB L nr r p)
theorem stn_due (L nr : Nat → Nat → Bool) (r p : Nat) : stn L nr r p = (L r p || due L nr r p) := by
  unfold due onB
  cases r with
  | zero => cases hL : L 0 p <;> simp [stn, hL]
  | succ r => cases hL : L (r + 1) p <;> simp [stn, hL]
def dC (L nr : Nat → Nat → Bool) (r : Nat) : Nat → Nat
  | 0 => 0
  | p + 1 => dC L nr r p + (if due L nr r p = true then 1 else 0)
def dT (L nr : Nat → Nat → Bool) : Nat → Nat
  | 0 => 0
  | r + 1 => dT L nr r + dC L nr r (12 - r)
theorem dC_le (L nr : Nat → Nat → Bool) (r : Nat) : ∀ p, dC L nr r p ≤ p
  | 0 => Nat.le_refl _
  | p + 1 => by
    have := dC_le L nr r p
    unfold dC
    split <;> omega
def bT : Nat → Nat
  | 0 => 0
  | r + 1 => bT r + (12 - r)
theorem dT_le (L nr : Nat → Nat → Bool) : ∀ r, dT L nr r ≤ bT r
  | 0 => Nat.le_refl _
  | r + 1 => by
    have h1 := dT_le L nr r
    have h2 := dC_le L nr r (12 - r)
    unfold dT bT
    omega
theorem bT_68 : ∀ r, r < 8 → bT r + (12 - r) ≤ 68 := by decide
theorem dT_68 {L nr : Nat → Nat → Bool} {r p : Nat} (hr : r < 8) (hp : p + r < 12) : dT L nr r + dC L nr r p < 68 := by
  have h1 := dT_le L nr r
  have h2 := dC_le L nr r p
  have h3 := bT_68 r hr
  omega
theorem bT_8 : ∀ r, r < 9 → bT r ≤ 68 := by decide
theorem dC_mono (L nr : Nat → Nat → Bool) (r : Nat) {p : Nat} : ∀ {q : Nat}, p ≤ q → dC L nr r p ≤ dC L nr r q
  | 0, h => by rw [show p = 0 by omega]; exact Nat.le_refl _
  | q + 1, h => by
    by_cases e : p = q + 1
    · rw [e]; exact Nat.le_refl _
    · have := dC_mono L nr r (p := p) (q := q) (by omega)
      rw [dC]
      omega
theorem dC_lt {L nr : Nat → Nat → Bool} {r p q : Nat} (h : due L nr r p = true) (hpq : p < q) : dC L nr r p < dC L nr r q := by
  have h1 : dC L nr r (p + 1) = dC L nr r p + 1 := by rw [dC, if_pos h]
  have h2 := dC_mono L nr r (p := p + 1) (q := q) hpq
  omega
theorem dT_mono (L nr : Nat → Nat → Bool) {r : Nat} : ∀ {q : Nat}, r ≤ q → dT L nr r ≤ dT L nr q
  | 0, h => by rw [show r = 0 by omega]; exact Nat.le_refl _
  | q + 1, h => by
    by_cases e : r = q + 1
    · rw [e]; exact Nat.le_refl _
    · have := dT_mono L nr (r := r) (q := q) (by omega)
      rw [dT]
      omega
/-- ahead in the order -/
def ahd (r' p' r p : Nat) : Prop := (r' < r ∧ p' + r' < 12) ∨ (r' = r ∧ p' < p)
theorem ord_lt {L nr : Nat → Nat → Bool} {r' p' r p : Nat} (h : ahd r' p' r p) (hd : due L nr r' p' = true) : dT L nr r' + dC L nr r' p' < dT L nr r + dC L nr r p := by
  rcases h with ⟨h1, h2⟩ | ⟨h1, h2⟩
  · have a := dC_lt hd (q := 12 - r') (by omega)
    have b : dT L nr (r' + 1) = dT L nr r' + dC L nr r' (12 - r') := rfl
    have c := dT_mono L nr (r := r' + 1) (q := r) h1
    omega
  · subst h1
    have := dC_lt hd h2
    omega
theorem ord_sj (L nr : Nat → Nat → Bool) : ∀ (r p t : Nat), t < dT L nr r + dC L nr r p → ∃ r' p', ahd r' p' r p ∧ due L nr r' p' = true ∧ t = dT L nr r' + dC L nr r' p'
  | r, p + 1, t, h => by
    by_cases h1 : t < dT L nr r + dC L nr r p
    · obtain ⟨r', p', a, b, c⟩ := ord_sj L nr r p t h1
      refine ⟨r', p', ?_, b, c⟩
      rcases a with a | ⟨a1, a2⟩
      · exact Or.inl a
      · exact Or.inr ⟨a1, by omega⟩
    · rw [dC] at h
      by_cases hd : due L nr r p = true
      · rw [if_pos hd] at h
        exact ⟨r, p, Or.inr ⟨rfl, by omega⟩, hd, by omega⟩
      · rw [if_neg hd] at h
        omega
  | 0, 0, t, h => by
    exact absurd h (by simp [dT, dC])
  | r + 1, 0, t, h => by
    have h1 : t < dT L nr r + dC L nr r (12 - r) := h
    obtain ⟨r', p', a, b, c⟩ := ord_sj L nr r (12 - r) t h1
    refine ⟨r', p', ?_, b, c⟩
    rcases a with ⟨a1, a2⟩ | ⟨a1, a2⟩
    · exact Or.inl ⟨by omega, a2⟩
    · exact Or.inl ⟨by omega, by omega⟩
/-! scratch cells: nothing that the relation speaks of -/
def scr (q : Nat) : Bool := [9, 10, 11, 12, 13, 16, 17, 18, 19, 20, 21, 22, 23, 33, 34, 35, 36, 38, 39, 40, 41].contains q
def FrS (G G' : Gt) : Prop := (∀ q, scr q = false → q ≠ 26 → G' q = G q) ∧ ∀ j, j ≠ 14 → G' 26 j = G 26 j
theorem FrS.rf (G : Gt) : FrS G G := ⟨fun _ _ _ => rfl, fun _ _ => rfl⟩
theorem FrS.s {G G' : Gt} {p : Nat} {f : Nat → Int32} (h : FrS G G') (hp : scr p = true) : FrS G (sG G' p f) := by
  have h26 : p ≠ 26 := fun z => by rw [z] at hp; exact absurd hp (by decide)
  refine ⟨fun q hq hn => ?_, fun j hj => ?_⟩
  · rw [sG_ne (fun z => by rw [z, hp] at hq; cases hq)]
    exact h.1 q hq hn
  · rw [sG_ne (Ne.symm h26)]
    exact h.2 j hj
theorem FrS.o {G G' : Gt} {v : Int32} (h : FrS G G') : FrS G (sG G' 26 (upd (G' 26) 14 v)) := by
  refine ⟨fun q hq hn => ?_, fun j hj => ?_⟩
  · rw [sG_ne hn]
    exact h.1 q hq hn
  · rw [sG_at, pk_un hj]
    exact h.2 j hj
theorem FrS.tr {A B C : Gt} (h : FrS A B) (h2 : FrS B C) : FrS A C := ⟨fun q a b => (h2.1 q a b).trans (h.1 q a b), fun j a => (h2.2 j a).trans (h.2 j a)⟩
theorem Inv_fr {G G' : Gt} (h : FrS G G') (hI : Inv G) : Inv G' := by
  have f := fun q (a : scr q = false) (b : q ≠ 26) => h.1 q a b
  have g := h.2
  unfold Inv
  rw [f 5 rfl (by decide), f 6 rfl (by decide), f 7 rfl (by decide), f 8 rfl (by decide), f 30 rfl (by decide), f 31 rfl (by decide), f 32 rfl (by decide), f 25 rfl (by decide), f 42 rfl (by decide), f 24 rfl (by decide), f 2 rfl (by decide), f 3 rfl (by decide), f 4 rfl (by decide), f 27 rfl (by decide), f 28 rfl (by decide), f 29 rfl (by decide), f 15 rfl (by decide), f 14 rfl (by decide), f 37 rfl (by decide), f 0 rfl (by decide), g 6 (by decide), g 20 (by decide), g 1 (by decide), g 0 (by decide)]
  exact hI
/-! the class: putInTurn -/
def bB (b : Bool) : Int32 := if b = true then 1 else 0
theorem bB_0 {b : Bool} : bB b = 0 ↔ b = false := by cases b <;> decide
abbrev tvO (L nr : Nat → Nat → Bool) (r p : Nat) : Int32 := if due L nr r p = true then nI (dT L nr r + dC L nr r p) else -1000000
/-- what is written of the places ahead of r, p -/
def okX (L nr : Nat → Nat → Bool) (G : Gt) (r p : Nat) : Prop := ∀ r' p', ahd r' p' r p → G 16 (12 * r' + p') = bB (stn L nr r' p') ∧ G 17 (12 * r' + p') = tvO L nr r' p'
theorem okX_put {L nr : Nat → Nat → Bool} {G : Gt} {r p : Nat} {a b : Int32} (hr : r < 8) (hp : p + r < 12) (h : okX L nr G r p) (ha : a = bB (stn L nr r p)) (hb : b = tvO L nr r p) : okX L nr (sG (sG G 16 (upd (G 16) (12 * r + p) a)) 17 (upd (G 17) (12 * r + p) b)) r (p + 1) := by
  intro r' p' h1
  show upd (G 16) (12 * r + p) a (12 * r' + p') = _ ∧ upd (G 17) (12 * r + p) b (12 * r' + p') = _
  by_cases e : r' = r ∧ p' = p
  · obtain ⟨rfl, rfl⟩ := e
    rw [pk_us, pk_us]
    exact ⟨ha, hb⟩
  · have hn : 12 * r' + p' ≠ 12 * r + p := by
      rcases h1 with ⟨q1, q2⟩ | ⟨q1, q2⟩
      · omega
      · omega
    rw [pk_un hn, pk_un hn]
    refine h r' p' ?_
    rcases h1 with q | ⟨q1, q2⟩
    · exact Or.inl q
    · exact Or.inr ⟨q1, by omega⟩
theorem okX_row {L nr : Nat → Nat → Bool} {G : Gt} {r : Nat} (h : okX L nr G r (12 - r)) : okX L nr G (r + 1) 0 := by
  intro r' p' h1
  refine h r' p' ?_
  rcases h1 with ⟨q1, q2⟩ | ⟨q1, q2⟩
  · by_cases e : r' = r
    · exact Or.inr ⟨e, by omega⟩
    · exact Or.inl ⟨by omega, q2⟩
  · omega
abbrev oL (c k m : Int32) (r n : Int32) : Lt := [(5, .int r), (4, .int n), (0, .ref 14), (1, .int c), (2, .int k), (3, .int m)]
set_option maxRecDepth 4000 in
theorem w_pt {X : Xt} {c k m : Int32} {R P nx : Nat} {d l : Bool} {G : Gt} {Q : Qt} (hR : R < 8) (hP : P + R < 12) (hl : l = true ↔ ¬ G 15 (12 * R + P) = 0) (K : ∀ q n, q = nI (P + 1) → n = nI (nx + (if d = true then 1 else 0)) → wp X m_Pile_putInTurn 15 ((6, .int q) :: oL c k m (nI R) n) [] (sG (sG G 16 (upd (G 16) (12 * R + P) (bB (l || d)))) 17 (upd (G 17) (12 * R + P) (if d = true then nI nx else -1000000))) Q) : wp X m_Pile_putInTurn 77 ((8, .int (bB d)) :: (7, .int (nI (12 * R + P))) :: (6, .int (nI P)) :: oL c k m (nI R) (nI nx)) [] G Q := by
  have n1 : vp_nar .boolean 1 = 1 := rfl
  have n0 : vp_nar .boolean 0 = 0 := rfl
  refine rn_wp (stops := [15]) 60 ?_
  refine vi (vp_in_nI (by omega) (by omega)) ?_
  rw [nI_clamp (by omega)]
  refine bj (fun h => ?_) (fun h => ?_)
  · have hl1 : l = true := hl.mpr h
    subst hl1
    refine vi (vp_in_nI (by omega) (by omega)) ?_
    rw [nI_clamp (by omega), n1]
    cases d
    · refine bi_t rfl ?_
      refine vi (vp_in_nI (by omega) (by omega)) ?_
      rw [nI_clamp (by omega)]
      refine bi_t rfl ?_
      exact wp_pick [0, 4, 1, 5, 6, 7, 8] (K _ _ (nI_1 P) (Int32.add_zero _))
    · refine bi_f (by decide) ?_
      refine vi (vp_in_nI (by omega) (by omega)) ?_
      rw [nI_clamp (by omega)]
      refine bi_f (by decide) ?_
      exact wp_pick [0, 4, 1, 5, 6, 7, 8] (K _ _ (nI_1 P) (nI_1 nx))
  · have hl1 : l = false := by
      cases l
      · rfl
      · exact absurd h (hl.mp rfl)
    subst hl1
    cases d
    · refine bi_t rfl ?_
      refine vi (vp_in_nI (by omega) (by omega)) ?_
      rw [nI_clamp (by omega), n0]
      refine bi_t rfl ?_
      refine vi (vp_in_nI (by omega) (by omega)) ?_
      rw [nI_clamp (by omega)]
      refine bi_t rfl ?_
      exact wp_pick [0, 4, 1, 5, 6, 7, 8] (K _ _ (nI_1 P) (Int32.add_zero _))
    · refine bi_f (by decide) ?_
      refine vi (vp_in_nI (by omega) (by omega)) ?_
      rw [nI_clamp (by omega), n1]
      refine bi_f (by decide) ?_
      refine vi (vp_in_nI (by omega) (by omega)) ?_
      rw [nI_clamp (by omega)]
      refine bi_f (by decide) ?_
      exact wp_pick [0, 4, 1, 5, 6, 7, 8] (K _ _ (nI_1 P) (nI_1 nx))
