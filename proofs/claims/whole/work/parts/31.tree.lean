section GOOD2
variable {n : Nat} {s : Int → Int}
/-- a part that stands in another, is in one of its terms -/
theorem in_kid (h : GoodA n s) {p q : Nat} (hp : p < n) (hm : nmA s p = false) (h1 : p < q) (h2 : q < enA n s p) (hq : nmA s q = false) :
    (1 ≤ inn (kos (s p)) ∧ c0A s p ≤ q ∧ q < c1A n s p) ∨ (2 ≤ inn (kos (s p)) ∧ c1A n s p ≤ q ∧ q < c2A n s p) ∨ (inn (kos (s p)) = 3 ∧ c2A n s p ≤ q ∧ q < enA n s p) := by
  obtain ⟨a, b, c, d, e⟩ := c0_spec h hp hm
  have ha := inn_rng (kos (s p))
  have h3 : c0A s p ≤ q := by
    rcases Nat.lt_or_ge q (c0A s p) with x | x
    · have := (e q h1 x).2; rw [hq] at this; cases this
    · exact x
  have h4 : inn (kos (s p)) = 0 ∨ inn (kos (s p)) = 1 ∨ inn (kos (s p)) = 2 ∨ inn (kos (s p)) = 3 := by omega
  rcases h4 with h4 | h4 | h4 | h4
  · have := kids0 h hp hm h4; omega
  · have := kids1 h hp hm h4; exact Or.inl ⟨by omega, h3, by omega⟩
  · have := kids2 h hp hm h4
    rcases Nat.lt_or_ge q (c1A n s p) with x | x
    · exact Or.inl ⟨by omega, h3, x⟩
    · exact Or.inr (Or.inl ⟨by omega, x, by omega⟩)
  · rcases Nat.lt_or_ge q (c1A n s p) with x | x
    · exact Or.inl ⟨by omega, h3, x⟩
    · rcases Nat.lt_or_ge q (c2A n s p) with y | y
      · exact Or.inr (Or.inl ⟨by omega, x, y⟩)
      · exact Or.inr (Or.inr ⟨h4, y, h2⟩)
/-- c is the i-th term in p -/
def kidA (n : Nat) (s : Int → Int) (p i c : Nat) : Prop := ((i : Int) < inn (kos (s p))) ∧ ((i = 0 ∧ c = c0A s p) ∨ (i = 1 ∧ c = c1A n s p) ∨ (i = 2 ∧ c = c2A n s p))
theorem kid_lt (h : GoodA n s) {p i c : Nat} (hp : p < n) (hm : nmA s p = false) (hk : kidA n s p i c) : p < c ∧ c < n ∧ nmA s c = false ∧ enA n s c ≤ enA n s p ∧ c < enA n s p := by
  obtain ⟨h1, h2⟩ := hk
  have ha := inn_rng (kos (s p))
  obtain ⟨a, b, c', d, e⟩ := c0_spec h hp hm
  have key : c < n ∧ nmA s c = false ∧ p < c ∧ c < enA n s p := by
    rcases h2 with ⟨rfl, rfl⟩ | ⟨rfl, rfl⟩ | ⟨rfl, rfl⟩
    · have k1 := kid1 h hp hm (by omega)
      refine ⟨k1.1, c', a, ?_⟩
      have h4 : inn (kos (s p)) = 1 ∨ inn (kos (s p)) = 2 ∨ inn (kos (s p)) = 3 := by omega
      rcases h4 with h4 | h4 | h4
      · have := kids1 h hp hm h4; omega
      · have := kids2 h hp hm h4; have := kid2 h hp hm (by omega); omega
      · have := kids3 h hp hm h4; have := kid2 h hp hm (by omega); have := en_spec h this.1; have := en_spec h (kids3 h hp hm h4).1; omega
    · have k1 := kid1 h hp hm (by omega)
      have k2 := kid2 h hp hm (by omega)
      refine ⟨k2.1, k1.2.2.2.2.1, by omega, ?_⟩
      have h4 : inn (kos (s p)) = 2 ∨ inn (kos (s p)) = 3 := by omega
      rcases h4 with h4 | h4
      · have := kids2 h hp hm h4; omega
      · have := kids3 h hp hm h4; have := en_spec h this.1; omega
    · have k1 := kid1 h hp hm (by omega)
      have k2 := kid2 h hp hm (by omega)
      have k3 := kids3 h hp hm (by omega)
      refine ⟨k3.1, k2.2.2.2.2.1, by omega, ?_⟩
      have := en_spec h k3.1; omega
  exact ⟨key.2.2.1, key.1, key.2.1, nest h hp key.2.2.1 key.2.2.2, key.2.2.2⟩
theorem par_kid (h : GoodA n s) {p i c : Nat} (hp : p < n) (hm : nmA s p = false) (hk : kidA n s p i c) : parA n s c = p := by
  obtain ⟨a, b, c1, d, e⟩ := kid_lt h hp hm hk
  refine last_uniq a (by simp [hm, e]) fun j h1 h2 => ?_
  cases hj : nmA s j
  · have hjn : j < n := by omega
    have he := en_spec h hjn
    -- j lies in an earlier term
    have hlow : enA n s j ≤ c := by
      obtain ⟨i1, i2⟩ := hk
      have ha := inn_rng (kos (s p))
      rcases in_kid h hp hm h1 (by omega) hj with ⟨x1, x2, x3⟩ | ⟨x1, x2, x3⟩ | ⟨x1, x2, x3⟩
      · have k1 := kid1 h hp hm x1
        have hle : enA n s j ≤ c1A n s p := by
          rcases Nat.eq_or_lt_of_le x2 with y | y
          · rw [← y]; exact Nat.le_refl _
          · exact nest h k1.1 y x3
        rcases i2 with ⟨rfl, rfl⟩ | ⟨rfl, rfl⟩ | ⟨rfl, rfl⟩
        · omega
        · exact hle
        · have := kid2 h hp hm (by omega); omega
      · have k2 := kid2 h hp hm x1
        have hle : enA n s j ≤ c2A n s p := by
          rcases Nat.eq_or_lt_of_le x2 with y | y
          · rw [← y]; exact Nat.le_refl _
          · exact nest h k2.1 y x3
        have := kid1 h hp hm (by omega)
        rcases i2 with ⟨rfl, rfl⟩ | ⟨rfl, rfl⟩ | ⟨rfl, rfl⟩
        · omega
        · omega
        · exact hle
      · have k2 := kid2 h hp hm (by omega)
        have := kid1 h hp hm (by omega)
        rcases i2 with ⟨rfl, rfl⟩ | ⟨rfl, rfl⟩ | ⟨rfl, rfl⟩ <;> omega
    simp; omega
  · rfl
theorem par_ex (h : GoodA n s) {q : Nat} (hq : q < n) (hq0 : 0 < q) (hm : nmA s q = false) : ∃ p i : Nat, parA n s q = p ∧ p < q ∧ nmA s p = false ∧ q < enA n s p ∧ kidA n s p i q := by
  rcases last_spec (fun p => !nmA s p && decide (q < enA n s p)) q with ⟨a, b⟩ | ⟨p, a, b, c, d⟩
  · have := b 0 hq0
    rw [en_root h] at this
    simp [nmA, hq] at this
  · simp only [Bool.and_eq_true, Bool.not_eq_true', decide_eq_true_eq] at c
    have hp : p < n := by omega
    have ha := inn_rng (kos (s p))
    refine ⟨p, ?_⟩
    have key : ∀ c, p < c → c ≤ q → nmA s c = false → q < enA n s c → c = q := by
      intro x h1 h2 h3 h4
      rcases Nat.eq_or_lt_of_le h2 with y | y
      · exact y
      · have := d x h1 y; simp [h3, h4] at this
    rcases in_kid h hp c.1 a c.2 hm with ⟨x1, x2, x3⟩ | ⟨x1, x2, x3⟩ | ⟨x1, x2, x3⟩
    · obtain ⟨y1, y2, y3, y4, y5⟩ := kid_lt h hp c.1 (show kidA n s p 0 (c0A s p) from ⟨by omega, Or.inl ⟨rfl, rfl⟩⟩)
      have := key _ y1 x2 y3 x3
      exact ⟨0, b, a, c.1, c.2, by omega, Or.inl ⟨rfl, this.symm⟩⟩
    · obtain ⟨y1, y2, y3, y4, y5⟩ := kid_lt h hp c.1 (show kidA n s p 1 (c1A n s p) from ⟨by omega, Or.inr (Or.inl ⟨rfl, rfl⟩)⟩)
      have := key _ y1 x2 y3 x3
      exact ⟨1, b, a, c.1, c.2, by omega, Or.inr (Or.inl ⟨rfl, this.symm⟩)⟩
    · have k3 := kids3 h hp c.1 x1
      obtain ⟨y1, y2, y3, y4, y5⟩ := kid_lt h hp c.1 (show kidA n s p 2 (c2A n s p) from ⟨by omega, Or.inr (Or.inr ⟨rfl, rfl⟩)⟩)
      have := key _ y1 x2 y3 (by omega)
      exact ⟨2, b, a, c.1, c.2, by omega, Or.inr (Or.inr ⟨rfl, this.symm⟩)⟩
/-- what the binder is -/
theorem bn_spec (h : GoodA n s) {p : Nat} (hp : p < n) : bnA n s p = -6 ∨ ∃ q : Nat, bnA n s p = q ∧ q < p ∧ nmA s q = false ∧ s q = 108 ∧ s ((q : Int) + 1) = s p ∧ c1A n s q ≤ p ∧ p < enA n s q := by
  rcases last_spec (fun q => !nmA s q && (decide (s q = 108) && (decide (s ((q : Int) + 1) = s p) && (decide (c1A n s q ≤ p) && decide (p < enA n s q))))) p with ⟨a, b⟩ | ⟨q, a, b, c, d⟩
  · exact Or.inl a
  · simp only [Bool.and_eq_true, Bool.not_eq_true', decide_eq_true_eq] at c
    exact Or.inr ⟨q, b, a, c.1, c.2.1, c.2.2.1, c.2.2.2.1, c.2.2.2.2⟩
end GOOD2
/-! ===== programs: the signs of each body, how many, what it is given, what it gives ===== -/
abbrev TP : Type := (Int → Int → Int) × (Int → Nat) × (Int → Int) × (Int → Int)
abbrev tS (T : TP) (b : Int) : Int → Int := T.1 b
abbrev tN (T : TP) (b : Int) : Nat := T.2.1 b
abbrev tG (T : TP) (b : Int) : Int := T.2.2.1 b
abbrev tV (T : TP) (b : Int) : Int := T.2.2.2 b
def isB (b : Int) : Prop := 0 ≤ b ∧ b < 3
/-- what a call calls -/
def ofA (s : Int → Int) (p : Nat) : Int := s ((p : Int) + 1) - 48
def kfA (T : TP) (b : Int) : Nat → Nat → Int
  | 0, _ => 0
  | f + 1, p => if kos (tS T b p) = 3 then 1 else if kos (tS T b p) = 1 then tG T b else if kos (tS T b p) = 9 then tV T (ofA (tS T b) p) else if kos (tS T b p) = 7 ∨ kos (tS T b p) = 8 then kfA T b f (c1A (tN T b) (tS T b) p) else if kos (tS T b p) = 2 then (if bnA (tN T b) (tS T b) p < 0 then 0 else kfA T b f (c0A (tS T b) (bnA (tN T b) (tS T b) p).toNat)) else 0
/-- the kind of a part -/
def kdA (T : TP) (b : Int) (p : Nat) : Int := kfA T b (tN T b) p
/-- how many parts end ahead of it -/
def rkA (n : Nat) (s : Int → Int) (p : Nat) : Nat := cntA (fun q => !nmA s q && (decide (enA n s q < enA n s p) || (decide (enA n s q = enA n s p) && decide (p < q)))) n
section GOOD3
variable {n : Nat} {s : Int → Int}
theorem rk_lt (h : GoodA n s) {p : Nat} (hp : p < n) : rkA n s p < n := cnt_lt_all (x := p) hp (by simp)
theorem rk_step (h : GoodA n s) {p q : Nat} (hp : p < n) (hq : q < n) (hqm : nmA s q = false) (hlt : enA n s q < enA n s p ∨ (enA n s q = enA n s p ∧ p < q)) : rkA n s q < rkA n s p := by
  refine cnt_lt (fun j hj hf => ?_) q hq (by simp) ?_
  · simp only [Bool.and_eq_true, Bool.not_eq_true', Bool.or_eq_true, decide_eq_true_eq] at hf ⊢
    exact ⟨hf.1, by omega⟩
  · simp only [Bool.and_eq_true, Bool.not_eq_true', Bool.or_eq_true, decide_eq_true_eq]
    exact ⟨hqm, hlt⟩
theorem inn_of {k : Int} (h : k = 7 ∨ k = 8) : 2 ≤ inn k := by rcases h with rfl | rfl <;> decide
theorem hop_c1 (h : GoodA n s) {p : Nat} (hp : p < n) (hm : nmA s p = false) (hk : kos (s p) = 7 ∨ kos (s p) = 8) : c1A n s p < n ∧ nmA s (c1A n s p) = false ∧ rkA n s (c1A n s p) < rkA n s p := by
  have h2 := inn_of hk
  have k1 := kid1 h hp hm (by omega)
  have k2 := kid2 h hp hm h2
  have c0 := c0_spec h hp hm
  refine ⟨k2.1, k1.2.2.2.2.1, rk_step h hp k2.1 k1.2.2.2.2.1 ?_⟩
  rcases hk with hk | hk
  · have k3 := kids3 h hp hm (by rw [hk]; decide)
    have := en_spec h k3.1
    left; show c2A n s p < _; omega
  · have k3 := kids2 h hp hm (by rw [hk]; decide)
    right; exact ⟨k3.symm, by omega⟩
theorem hop_let (h : GoodA n s) {p q : Nat} (hp : p < n) (hq : nmA s q = false) (hs : s q = 108) (h1 : c1A n s q ≤ p) (h2 : p < enA n s q) (hqp : q < p) : c0A s q < n ∧ nmA s (c0A s q) = false ∧ rkA n s (c0A s q) < rkA n s p := by
  have hi : inn (kos (s q)) = 2 := by rw [hs]; decide
  have hqn : q < n := by omega
  have k1 := kid1 h hqn hq (by omega)
  have c0 := c0_spec h hqn hq
  refine ⟨k1.1, c0.2.2.1, rk_step h hp k1.1 c0.2.2.1 ?_⟩
  have := en_spec h hp
  left; show c1A n s q < _; omega
end GOOD3
theorem kf_stab {T : TP} {b : Int} (h : GoodA (tN T b) (tS T b)) : ∀ (f f' p : Nat), p < tN T b → nmA (tS T b) p = false → rkA (tN T b) (tS T b) p < f → rkA (tN T b) (tS T b) p < f' → kfA T b f p = kfA T b f' p
  | 0, _, _, _, _, h1, _ => by omega
  | f + 1, 0, _, _, _, _, h2 => by omega
  | f + 1, f' + 1, p, hp, hm, h1, h2 => by
    simp only [kfA]
    by_cases e1 : kos (tS T b p) = 3
    · rw [if_pos e1, if_pos e1]
    rw [if_neg e1, if_neg e1]
    by_cases e2 : kos (tS T b p) = 1
    · rw [if_pos e2, if_pos e2]
    rw [if_neg e2, if_neg e2]
    by_cases e3 : kos (tS T b p) = 9
    · rw [if_pos e3, if_pos e3]
    rw [if_neg e3, if_neg e3]
    by_cases e4 : kos (tS T b p) = 7 ∨ kos (tS T b p) = 8
    · rw [if_pos e4, if_pos e4]
      obtain ⟨a1, a2, a3⟩ := hop_c1 h hp hm e4
      exact kf_stab h f f' _ a1 a2 (by omega) (by omega)
    rw [if_neg e4, if_neg e4]
    by_cases e5 : kos (tS T b p) = 2
    · rw [if_pos e5, if_pos e5]
      rcases bn_spec h hp with q | ⟨q, q1, q2, q3, q4, q5, q6, q7⟩
      · rw [q, if_pos (by decide), if_pos (by decide)]
      · rw [q1, if_neg (by omega), if_neg (by omega), Int.toNat_natCast]
        obtain ⟨a1, a2, a3⟩ := hop_let h hp q3 q4 q6 q7 q2
        exact kf_stab h f f' _ a1 a2 (by omega) (by omega)
    rw [if_neg e5, if_neg e5]
theorem kd_eq {T : TP} {b : Int} (h : GoodA (tN T b) (tS T b)) {p : Nat} (hp : p < tN T b) (hm : nmA (tS T b) p = false) :
    kdA T b p = if kos (tS T b p) = 3 then 1 else if kos (tS T b p) = 1 then tG T b else if kos (tS T b p) = 9 then tV T (ofA (tS T b) p) else if kos (tS T b p) = 7 ∨ kos (tS T b p) = 8 then kdA T b (c1A (tN T b) (tS T b) p) else if kos (tS T b p) = 2 then (if bnA (tN T b) (tS T b) p < 0 then 0 else kdA T b (c0A (tS T b) (bnA (tN T b) (tS T b) p).toNat)) else 0 := by
  have h1 := rk_lt h hp
  have h2 : kdA T b p = kfA T b (tN T b + 1) p := kf_stab h _ _ _ hp hm h1 (by omega)
  rw [h2]
  rfl
def TOKA (T : TP) : Prop := ∀ b, isB b → tN T b ≤ 40 ∧ (tG T b = 0 ∨ tG T b = 1) ∧ (tV T b = 0 ∨ tV T b = 1) ∧ ∀ k : Nat, k < tN T b → 33 ≤ tS T b k ∧ tS T b k ≤ 126
/-- a call bears the name of a body -/
theorem of_B {n : Nat} {s : Int → Int} (h : GoodA n s) {p : Nat} (hp : p < n) (hm : nmA s p = false) (hk : s p = 64) : isB (ofA s p) ∧ p + 1 < n := by
  have h1 := (nm_next hm).mpr (Or.inr hk)
  have h2 : p + 1 ≠ n := by intro q; rw [q, h.2.2] at h1; cases h1
  have h3 : p + 1 < n := by omega
  have h4 := h.1 _ h3
  refine ⟨?_, h3⟩
  have h5 : nmf (s (((p + 1 : Nat) : Int) - 1)) (s ((p + 1 : Nat) : Int)) ≠ 0 := fun q => h4 (Or.inr (Or.inl ⟨h1, q⟩))
  rw [show (((p + 1 : Nat) : Int) - 1) = (p : Int) by omega, hk] at h5
  have h6 : 48 ≤ s ((p + 1 : Nat) : Int) ∧ s ((p + 1 : Nat) : Int) ≤ 50 := by
    by_cases x : 48 ≤ s ((p + 1 : Nat) : Int) ∧ s ((p + 1 : Nat) : Int) ≤ 50
    · exact x
    · exfalso; apply h5; unfold nmf; rw [if_neg]; rw [if_neg (by decide)]; exact x
  unfold isB ofA
  rw [show ((p : Int) + 1) = ((p + 1 : Nat) : Int) by omega]
  omega
theorem kd_01 {T : TP} (hT : TOKA T) {b : Int} (hb : isB b) (h : GoodA (tN T b) (tS T b)) : ∀ (f p : Nat), p < tN T b → nmA (tS T b) p = false → (kfA T b f p = 0 ∨ kfA T b f p = 1)
  | 0, _, _, _ => Or.inl rfl
  | f + 1, p, hp, hm => by
    simp only [kfA]
    by_cases e1 : kos (tS T b p) = 3
    · rw [if_pos e1]; exact Or.inr rfl
    rw [if_neg e1]
    by_cases e2 : kos (tS T b p) = 1
    · rw [if_pos e2]; exact (hT b hb).2.1
    rw [if_neg e2]
    by_cases e3 : kos (tS T b p) = 9
    · rw [if_pos e3]; exact (hT _ (of_B h hp hm ((kos_nam _).2.1.mp e3)).1).2.2.1
    rw [if_neg e3]
    by_cases e4 : kos (tS T b p) = 7 ∨ kos (tS T b p) = 8
    · rw [if_pos e4]
      obtain ⟨a1, a2, a3⟩ := hop_c1 h hp hm e4
      exact kd_01 hT hb h f _ a1 a2
    rw [if_neg e4]
    by_cases e5 : kos (tS T b p) = 2
    · rw [if_pos e5]
      rcases bn_spec h hp with q | ⟨q, q1, q2, q3, q4, q5, q6, q7⟩
      · rw [q, if_pos (by decide)]; exact Or.inl rfl
      · rw [q1, if_neg (by omega), Int.toNat_natCast]
        obtain ⟨a1, a2, a3⟩ := hop_let h hp q3 q4 q6 q7 q2
        exact kd_01 hT hb h f _ a1 a2
    rw [if_neg e5]; exact Or.inl rfl
/-- whether a part is ill, its kind as the whole aside -/
def illB (T : TP) (b : Int) (p : Nat) : Bool :=
  if kos (tS T b p) = 2 then decide (bnA (tN T b) (tS T b) p < 0)
   else if kos (tS T b p) = 3 ∨ kos (tS T b p) = 5 then decide (kdA T b (c0A (tS T b) p) = 1)
   else if kos (tS T b p) = 4 then decide (kdA T b (c0A (tS T b) p) = 0)
   else if kos (tS T b p) = 6 then decide (kdA T b (c0A (tS T b) p) = 1) || decide (kdA T b (c1A (tN T b) (tS T b) p) = 1)
   else if kos (tS T b p) = 7 then decide (kdA T b (c0A (tS T b) p) = 1) || decide (kdA T b (c1A (tN T b) (tS T b) p) ≠ kdA T b (c2A (tN T b) (tS T b) p))
   else if kos (tS T b p) = 9 then decide (kdA T b (c0A (tS T b) p) ≠ tG T (ofA (tS T b) p))
   else false
/-- whether a part is ill -/
def illA (T : TP) (b : Int) (p : Nat) : Bool := (decide (p = 0) && decide (kdA T b p ≠ tV T b)) || illB T b p
/-- the first place below n where f holds; none: -6 -/
def frstA (f : Nat → Bool) : Nat → Nat → Int
  | 0, _ => -6
  | m + 1, k => if f k = true then (k : Int) else frstA f m (k + 1)
def iloA (T : TP) (b : Int) : Int := frstA (fun p => !nmA (tS T b) p && illA T b p) (tN T b) 0
def welA (T : TP) : Prop := ∀ b, isB b → GoodA (tN T b) (tS T b) ∧ iloA T b = -6
