/-! patches: a pure picture -/
def adj (w h a b : Nat) : Prop := (0 < a % w ∧ b + 1 = a) ∨ (a % w + 1 < w ∧ b = a + 1) ∨ (w ≤ a ∧ b + w = a) ∨ (a + w < w * h ∧ b = a + w)
theorem mod_s {w : Nat} (hw : 0 < w) (a : Nat) : (a + 1) % w = if a % w + 1 = w then 0 else a % w + 1 := by
  have h1 : (a + 1) % w = (a % w + 1) % w := by rw [Nat.mod_add_mod]
  have h2 := Nat.mod_lt a hw
  rw [h1]
  split
  · rename_i h; rw [h, Nat.mod_self]
  · exact Nat.mod_eq_of_lt (by omega)
theorem adj_sym {w h a b : Nat} (hw : 0 < w) (ha : a < w * h) (hab : adj w h a b) : adj w h b a := by
  rcases hab with ⟨h1, h2⟩ | ⟨h1, h2⟩ | ⟨h1, h2⟩ | ⟨h1, h2⟩
  · subst h2
    rw [mod_s hw] at h1
    have := Nat.mod_lt b hw
    refine Or.inr (Or.inl ⟨?_, rfl⟩)
    split at h1
    · omega
    · omega
  · subst h2
    refine Or.inl ⟨?_, rfl⟩
    rw [mod_s hw, if_neg (by omega)]
    omega
  · subst h2
    exact Or.inr (Or.inr (Or.inr ⟨ha, rfl⟩))
  · subst h2
    exact Or.inr (Or.inr (Or.inl ⟨by omega, rfl⟩))
theorem adj_lt {w h a b : Nat} (hw : 0 < w) (ha : a < w * h) (hab : adj w h a b) : b < w * h := by
  rcases hab with ⟨h1, h2⟩ | ⟨h1, h2⟩ | ⟨h1, h2⟩ | ⟨h1, h2⟩
  · omega
  · subst h2
    refine Nat.lt_of_le_of_ne ha (fun e => ?_)
    have h3 := mod_s hw a
    have e' : a + 1 = w * h := e
    rw [e', Nat.mul_mod_right, if_neg (by omega)] at h3
    omega
  · omega
  · omega
/-- what can be come to from a, by places of U -/
def rch (w h : Nat) (U : Nat → Prop) (a b : Nat) : Prop := ∀ D : Nat → Prop, D a → (∀ x y, D x → U y → adj w h x y → D y) → D b
theorem rch_rf (w h : Nat) (U : Nat → Prop) (a : Nat) : rch w h U a a := fun _ h _ => h
theorem rch_st {w h : Nat} {U : Nat → Prop} {a x y : Nat} (h1 : rch w h U a x) (h2 : U y) (h3 : adj w h x y) : rch w h U a y := fun D d0 d1 => d1 x y (h1 D d0 d1) h2 h3
theorem rch_U {w h : Nat} {U : Nat → Prop} {a b : Nat} (h1 : U a) (h2 : rch w h U a b) : U b := h2 U h1 (fun _ _ _ q _ => q)
/-- how many of n -/
noncomputable def cP (U : Nat → Prop) : Nat → Nat
  | 0 => 0
  | n + 1 => cP U n + @ite Nat (U n) (Classical.propDecidable _) 1 0
theorem cP_s1 {U : Nat → Prop} {n : Nat} (h : U n) : cP U (n + 1) = cP U n + 1 := by rw [cP, if_pos h]
theorem cP_s0 {U : Nat → Prop} {n : Nat} (h : ¬ U n) : cP U (n + 1) = cP U n := by rw [cP, if_neg h]; rfl
theorem cP_congr {U V : Nat → Prop} : ∀ {n : Nat}, (∀ x, x < n → (U x ↔ V x)) → cP U n = cP V n
  | 0, _ => rfl
  | n + 1, h => by
    have ih := cP_congr (n := n) (fun x hx => h x (by omega))
    by_cases q : U n
    · rw [cP_s1 q, cP_s1 ((h n (by omega)).mp q), ih]
    · rw [cP_s0 q, cP_s0 (fun z => q ((h n (by omega)).mpr z)), ih]
theorem cP_del {U V : Nat → Prop} {k : Nat} (hk : U k) (hV : ¬ V k) : ∀ {n : Nat}, k < n → (∀ x, x < n → x ≠ k → (U x ↔ V x)) → cP U n = cP V n + 1
  | 0, h, _ => absurd h (by omega)
  | n + 1, h, hx => by
    by_cases e : n = k
    · subst e
      rw [cP_s1 hk, cP_s0 hV, cP_congr (fun x h => hx x (by omega) (by omega))]
    · have ih := cP_del hk hV (n := n) (by omega) (fun x h => hx x (by omega))
      by_cases q : U n
      · rw [cP_s1 q, cP_s1 ((hx n (by omega) e).mp q), ih]
      · rw [cP_s0 q, cP_s0 (fun z => q ((hx n (by omega) e).mpr z)), ih]
theorem cP_le (U : Nat → Prop) : ∀ n, cP U n ≤ n
  | 0 => Nat.le_refl _
  | n + 1 => by
    have := cP_le U n
    by_cases q : U n
    · rw [cP_s1 q]; omega
    · rw [cP_s0 q]; omega
theorem cP_pos {U : Nat → Prop} {k : Nat} (hk : U k) : ∀ {n : Nat}, k < n → 0 < cP U n
  | 0, h => absurd h (by omega)
  | n + 1, h => by
    by_cases e : n = k
    · rw [e, cP_s1 hk]; omega
    · have ih := cP_pos hk (n := n) (by omega)
      by_cases q : U n
      · rw [cP_s1 q]; omega
      · rw [cP_s0 q]; exact ih
/-- what is left behind k places -/
def Us (w h : Nat) (U : Nat → Prop) : Nat → Nat → Prop
  | 0 => U
  | k + 1 => fun x => Us w h U k x ∧ ¬ (Us w h U k k ∧ rch w h (Us w h U k) k x)
noncomputable def szS (w h : Nat) (U : Nat → Prop) (k : Nat) : Nat := cP (Us w h U k) (w * h) - cP (Us w h U (k + 1)) (w * h)
noncomputable def pcs (w h : Nat) (U : Nat → Prop) : Nat → Nat × Nat
  | 0 => (0, 0)
  | k + 1 => @ite (Nat × Nat) (Us w h U k k) (Classical.propDecidable _) ((pcs w h U k).1 + 1, if (pcs w h U k).2 < szS w h U k then szS w h U k else (pcs w h U k).2) (pcs w h U k)
theorem pcs_1 {w h : Nat} {U : Nat → Prop} {k : Nat} (q : Us w h U k k) : pcs w h U (k + 1) = ((pcs w h U k).1 + 1, if (pcs w h U k).2 < szS w h U k then szS w h U k else (pcs w h U k).2) := by rw [pcs, if_pos q]
theorem pcs_0 {w h : Nat} {U : Nat → Prop} {k : Nat} (q : ¬ Us w h U k k) : pcs w h U (k + 1) = pcs w h U k := by rw [pcs, if_neg q]
theorem Us_0 {w h : Nat} {U : Nat → Prop} {k : Nat} (q : ¬ Us w h U k k) (x : Nat) : Us w h U (k + 1) x ↔ Us w h U k x := ⟨fun z => z.1, fun z => ⟨z, fun y => q y.1⟩⟩
theorem Us_1 {w h : Nat} {U : Nat → Prop} {k : Nat} (q : Us w h U k k) (x : Nat) : Us w h U (k + 1) x ↔ Us w h U k x ∧ ¬ rch w h (Us w h U k) k x := ⟨fun z => ⟨z.1, fun y => z.2 ⟨q, y⟩⟩, fun z => ⟨z.1, fun y => z.2 y.2⟩⟩
theorem pcs_rng {w h : Nat} {U : Nat → Prop} (hn : w * h ≤ 100) : ∀ k, (pcs w h U k).1 ≤ k ∧ (pcs w h U k).2 ≤ 100
  | 0 => ⟨Nat.le_refl _, Nat.zero_le _⟩
  | k + 1 => by
    have ih := pcs_rng (U := U) hn k
    have h2 := cP_le (Us w h U k) (w * h)
    by_cases q : Us w h U k k
    · rw [pcs_1 q]
      refine ⟨by have := ih.1; omega, ?_⟩
      show (if _ then _ else _) ≤ 100
      split
      · exact Nat.le_trans (Nat.sub_le _ _) (by omega)
      · exact ih.2
    · rw [pcs_0 q]
      exact ⟨by have := ih.1; omega, ih.2⟩
/-! the class: join, spread -/
def inL (G : Gt) (f x : Nat) : Prop := ∃ i, i < f ∧ G 23 i = nI x
/-- joined so far: f of them, from a0 by U -/
def SI (w h : Nat) (U : Nat → Prop) (a0 : Nat) (G0 G : Gt) (f : Nat) : Prop := (G 21 2 = nI f ∧ FrS G0 G ∧ ∀ j, j ≠ 2 → G 21 j = G0 21 j) ∧ (∀ i, i < f → ∃ x, x < w * h ∧ G 23 i = nI x ∧ U x ∧ rch w h U a0 x) ∧ (∀ x, x < w * h → (¬ G 22 x = 0 ↔ U x ∧ ¬ inL G f x)) ∧ f + cP (fun x => ¬ G 22 x = 0) (w * h) = cP U (w * h)
theorem SI_f {w h : Nat} {U : Nat → Prop} {a0 : Nat} {G0 G : Gt} {f : Nat} (hn : w * h ≤ 100) (hS : SI w h U a0 G0 G f) : f ≤ 100 := by
  have := cP_le U (w * h)
  have := hS.2.2.2
  omega
theorem SI_put {w h : Nat} {U : Nat → Prop} {a0 y : Nat} {G0 G : Gt} {f : Nat} (hn : w * h ≤ 100) (hy : y < w * h) (hr : U y → rch w h U a0 y) (hS : SI w h U a0 G0 G f) (hq : ¬ G 22 y = 0) : f < 100 ∧ SI w h U a0 G0 (sG (sG (sG G 22 (upd (G 22) y 0)) 23 (upd (G 23) f (nI y))) 21 (upd (G 21) 2 (nI (f + 1)))) (f + 1) := by
  obtain ⟨⟨s1, s2, s3⟩, s4, s5, s6⟩ := hS
  have hy2 := (s5 y hy).mp hq
  have hp := cP_pos (U := fun x => ¬ G 22 x = 0) hq hy
  have hle := cP_le U (w * h)
  have hin : ∀ x, x < w * h → (inL (sG (sG (sG G 22 (upd (G 22) y 0)) 23 (upd (G 23) f (nI y))) 21 (upd (G 21) 2 (nI (f + 1)))) (f + 1) x ↔ inL G f x ∨ x = y) := by
    intro x hx
    constructor
    · rintro ⟨i, h1, h2⟩
      have h2 : upd (G 23) f (nI y) i = nI x := h2
      by_cases e : i = f
      · rw [e, pk_us, nI_eq (by omega) (by omega)] at h2
        exact Or.inr h2.symm
      · rw [pk_un e] at h2
        exact Or.inl ⟨i, by omega, h2⟩
    · rintro (⟨i, h1, h2⟩ | e)
      · refine ⟨i, by omega, ?_⟩
        show upd (G 23) f (nI y) i = nI x
        rw [pk_un (by omega)]
        exact h2
      · refine ⟨f, by omega, ?_⟩
        show upd (G 23) f (nI y) f = nI x
        rw [pk_us, e]
  refine ⟨by omega, ⟨rfl, ((s2.s rfl).s rfl).s rfl, fun j hj => ?_⟩, fun i hi => ?_, fun x hx => ?_, ?_⟩
  · show upd (G 21) 2 _ j = _
    rw [pk_un hj]
    exact s3 j hj
  · show ∃ x, x < w * h ∧ upd (G 23) f (nI y) i = nI x ∧ _
    by_cases e : i = f
    · subst e
      exact ⟨y, hy, pk_us, hy2.1, hr hy2.1⟩
    · rw [pk_un e]
      exact s4 i (by omega)
  · show ¬ upd (G 22) y 0 x = 0 ↔ _
    rw [hin x hx]
    by_cases e : x = y
    · subst e
      rw [pk_us]
      exact ⟨fun z => absurd rfl z, fun z => absurd (Or.inr rfl) z.2⟩
    · rw [pk_un e, s5 x hx]
      exact ⟨fun z => ⟨z.1, fun q => q.elim z.2 e⟩, fun z => ⟨z.1, fun q => z.2 (Or.inl q)⟩⟩
  · have h1 : cP (fun x => ¬ G 22 x = 0) (w * h) = cP (fun x => ¬ upd (G 22) y 0 x = 0) (w * h) + 1 := by
      refine cP_del (k := y) hq (fun z => z (pk_us)) hy (fun x hx e => ?_)
      show _ ↔ ¬ upd (G 22) y 0 x = 0
      rw [pk_un e]
    show f + 1 + cP (fun x => ¬ upd (G 22) y 0 x = 0) (w * h) = _
    omega
theorem c_join {X : Xt} {a f : Nat} {G : Gt} {Q : Qt} (ha : a < 100) (e : G 21 2 = nI f) (hf : ¬ G 22 a = 0 → f < 100) (K1 : G 22 a = 0 → Q none G) (K2 : ¬ G 22 a = 0 → Q none (sG (sG (sG G 22 (upd (G 22) a 0)) 23 (upd (G 23) f (nI a))) 21 (upd (G 21) 2 (nI (f + 1))))) {p : Int32} (hp : p = nI a) : con X m_Surveys_join [.ref 21, .int p] G Q := by
  subst hp
  refine con_rn 60 [] (by decide) rfl ?_
  refine vi (vp_in_nI ha (by omega)) ?_
  rw [nI_clamp (by omega)]
  refine bi (fun h => ?_) (fun h => ?_)
  · exact K1 h
  · have hf := hf h
    refine bi_f (by rw [e, show (100 : Int32) = nI 100 from rfl, nI_leI (by omega) (by omega)]; omega) ?_
    refine vi (vp_in_nI ha (by omega)) ?_
    rw [nI_clamp (by omega)]
    have hv : vp_in (G 21 2) 100 := by rw [e]; exact vp_in_nI hf (by omega)
    refine vi hv ?_
    have k2 : Q none (sG (sG (sG G 22 (upd (G 22) a 0)) 23 (upd (G 23) (G 21 2).toNatClampNeg (nI a))) 21 (upd (G 21) 2 (G 21 2 + 1))) := by
      rw [e, nI_clamp (by omega), nI_1]
      exact K2 h
    exact k2
/-- one more place, if it is left -/
theorem c_joinS {X : Xt} {w h : Nat} {U : Nat → Prop} {a0 y f : Nat} {G0 G : Gt} {Q : Qt} (hn : w * h ≤ 100) (hy : y < w * h) (hr : U y → rch w h U a0 y) (hS : SI w h U a0 G0 G f) (K : ∀ G' f', SI w h U a0 G0 G' f' → f ≤ f' → (∀ x, inL G f x → inL G' f' x) → (∀ i, i < f → G' 23 i = G 23 i) → (U y → inL G' f' y) → Q none G') {p : Int32} (hp : p = nI y) : con X m_Surveys_join [.ref 21, .int p] G Q := by
  refine c_join (f := f) (by omega) hS.1.1 (fun q => (SI_put hn hy hr hS q).1) (fun q => ?_) (fun q => ?_) hp
  · refine K G f hS (Nat.le_refl _) (fun _ z => z) (fun _ _ => rfl) (fun z => ?_)
    exact Classical.byContradiction (fun z2 => (hS.2.2.1 y hy).mpr ⟨z, z2⟩ q)
  · refine K _ (f + 1) (SI_put hn hy hr hS q).2 (by omega) (fun x z => ?_) (fun i hi => ?_) (fun _ => ?_)
    · obtain ⟨i, h1, h2⟩ := z
      refine ⟨i, by omega, ?_⟩
      show upd (G 23) f (nI y) i = nI x
      rw [pk_un (by omega)]
      exact h2
    · show upd (G 23) f (nI y) i = G 23 i
      rw [pk_un (by omega)]
    · refine ⟨f, by omega, ?_⟩
      show upd (G 23) f (nI y) f = nI y
      rw [pk_us]
