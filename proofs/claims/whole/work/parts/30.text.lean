/-! ===== texts, without any heap: which places are names, how many terms are due, where a part ends ===== -/
/-- a name stands at place k -/
def nmA (s : Int → Int) : Nat → Bool
  | 0 => false
  | k + 1 => !nmA s k && (decide (s k = 108) || decide (s k = 64))
/-- how many terms are due ahead of place k -/
def opA (s : Int → Int) : Nat → Int
  | 0 => 1
  | k + 1 => if nmA s k = true then opA s k else opA s k + inn (kos (s k)) - 1
def badA (s : Int → Int) (k : Nat) : Prop := opA s k = 0 ∨ (nmA s k = true ∧ nmf (s ((k : Int) - 1)) (s k) = 0) ∨ (nmA s k = false ∧ kos (s k) < 0)
def GoodA (n : Nat) (s : Int → Int) : Prop := (∀ k, k < n → ¬ badA s k) ∧ opA s n = 0 ∧ nmA s n = false
def IsFA (n : Nat) (s : Int → Int) (f : Int) : Prop := (f = -6 ∧ GoodA n s) ∨ (f = n ∧ (∀ k, k < n → ¬ badA s k) ∧ (opA s n ≠ 0 ∨ nmA s n = true)) ∨ (∃ k : Nat, k < n ∧ f = k ∧ badA s k ∧ ∀ j, j < k → ¬ badA s j)
theorem IsFA_uniq {n : Nat} {s : Int → Int} {f g : Int} (h1 : IsFA n s f) (h2 : IsFA n s g) : f = g := by
  rcases h1 with ⟨a1, a2, a3, a4⟩ | ⟨a1, a2, a3⟩ | ⟨k, a1, a2, a3, a4⟩ <;> rcases h2 with ⟨b1, b2, b3, b4⟩ | ⟨b1, b2, b3⟩ | ⟨j, b1, b2, b3, b4⟩
  · omega
  · rcases b3 with q | q
    · exact absurd a3 q
    · rw [a4] at q; cases q
  · exact absurd b3 (a2 j b1)
  · rcases a3 with q | q
    · exact absurd b3 q
    · rw [b4] at q; cases q
  · omega
  · exact absurd b3 (a2 j b1)
  · exact absurd a3 (b2 k a1)
  · exact absurd a3 (b2 k a1)
  · rcases Nat.lt_trichotomy k j with q | q | q
    · exact absurd a3 (b4 k q)
    · subst q; omega
    · exact absurd b3 (a4 j q)
theorem IsFA_cong {n : Nat} {s s' : Int → Int} (h : ∀ k : Nat, k < n → s k = s' k) : (∀ k, k ≤ n → nmA s k = nmA s' k ∧ opA s k = opA s' k) ∧ (∀ k, k < n → (badA s k ↔ badA s' k)) := by
  have h1 : ∀ k, k ≤ n → nmA s k = nmA s' k ∧ opA s k = opA s' k := by
    intro k
    induction k with
    | zero => intro _; exact ⟨rfl, rfl⟩
    | succ k ih =>
      intro hk
      obtain ⟨i1, i2⟩ := ih (by omega)
      simp only [nmA, opA, i1, i2, h k (by omega)]
      exact ⟨trivial, trivial⟩
  refine ⟨h1, fun k hk => ?_⟩
  obtain ⟨i1, i2⟩ := h1 k (by omega)
  unfold badA
  rw [i1, i2, h k hk]
  cases k with
  | zero => simp [nmA]
  | succ k =>
    have := h k (by omega)
    rw [show (((k + 1 : Nat) : Int) - 1) = (k : Int) by omega, this]
theorem inn_rng (k : Int) : 0 ≤ inn k ∧ inn k ≤ 3 := by unfold inn; split; · omega
                                                        split; · omega
                                                        split <;> omega
theorem kos_rng (x : Int) : kos x = -6 ∨ (0 ≤ kos x ∧ kos x ≤ 9) := by
  unfold kos
  repeat' split
  all_goals omega
theorem kos_nam (x : Int) : (kos x = 8 ↔ x = 108) ∧ (kos x = 9 ↔ x = 64) ∧ (kos x = 7 ↔ x = 63) ∧ (kos x = 6 ↔ x = 43) ∧ (kos x = 5 ↔ x = 45) ∧ (kos x = 4 ↔ x = 42) ∧ (kos x = 3 ↔ x = 110) ∧ (kos x = 1 ↔ x = 120) ∧ (kos x = 2 ↔ (97 ≤ x ∧ x ≤ 100)) ∧ (kos x = 0 ↔ (48 ≤ x ∧ x ≤ 57)) := by
  unfold kos
  repeat' split
  all_goals omega
theorem kos_8 {x : Int} : kos x = 8 ↔ x = 108 := (kos_nam x).1
theorem kos_9 {x : Int} : kos x = 9 ↔ x = 64 := (kos_nam x).2.1
theorem kos_7 {x : Int} : kos x = 7 ↔ x = 63 := (kos_nam x).2.2.1
theorem kos_6 {x : Int} : kos x = 6 ↔ x = 43 := (kos_nam x).2.2.2.1
theorem kos_5 {x : Int} : kos x = 5 ↔ x = 45 := (kos_nam x).2.2.2.2.1
theorem kos_4 {x : Int} : kos x = 4 ↔ x = 42 := (kos_nam x).2.2.2.2.2.1
theorem kos_3 {x : Int} : kos x = 3 ↔ x = 110 := (kos_nam x).2.2.2.2.2.2.1
theorem kos_1 {x : Int} : kos x = 1 ↔ x = 120 := (kos_nam x).2.2.2.2.2.2.2.1
theorem kos_2 {x : Int} : kos x = 2 ↔ (97 ≤ x ∧ x ≤ 100) := (kos_nam x).2.2.2.2.2.2.2.2.1
theorem kos_0 {x : Int} : kos x = 0 ↔ (48 ≤ x ∧ x ≤ 57) := (kos_nam x).2.2.2.2.2.2.2.2.2
theorem tin_kos (x : Int) : tin x = if kos x < 0 then -1 else inn (kos x) := by
  have h := kos_nam x
  have r := kos_rng x
  generalize kos x = k at *
  unfold tin inn
  repeat' split
  all_goals omega
theorem inn_nam {x : Int} (h : x = 108 ∨ x = 64) : 1 ≤ inn (kos x) := by
  rcases h with rfl | rfl <;> decide
theorem op_step {s : Int → Int} {k : Nat} (h : nmA s k = false) : opA s (k + 1) = opA s k + inn (kos (s k)) - 1 := by
  simp only [opA, h]; rfl
theorem op_name {s : Int → Int} {k : Nat} (h : nmA s k = true) : opA s (k + 1) = opA s k := by
  simp only [opA, h]; rfl
theorem op_low {s : Int → Int} (k : Nat) : opA s k - 1 ≤ opA s (k + 1) := by
  have := inn_rng (kos (s k))
  cases h : nmA s k
  · rw [op_step h]; omega
  · rw [op_name h]; omega
theorem op_pos {n : Nat} {s : Int → Int} (h : ∀ k, k < n → ¬ badA s k) : ∀ k, k ≤ n → 0 ≤ opA s k ∧ (k < n → 1 ≤ opA s k) := by
  intro k
  have hb : ∀ k, k < n → 0 ≤ opA s k → 1 ≤ opA s k := fun k hk h0 => by
    rcases (show 1 ≤ opA s k ∨ opA s k = 0 by omega) with q | q
    · exact q
    · exact absurd (Or.inl q) (h k hk)
  induction k with
  | zero => intro _; exact ⟨by simp [opA], fun hk => hb 0 hk (by simp [opA])⟩
  | succ k ih =>
    intro hk
    have i := (ih (by omega)).2 (by omega)
    have := op_low (s := s) k
    exact ⟨by omega, fun q => hb _ q (by omega)⟩
theorem nm_next {s : Int → Int} {k : Nat} (h : nmA s k = false) : nmA s (k + 1) = true ↔ (s k = 108 ∨ s k = 64) := by
  simp [nmA, h]
theorem nm_after {s : Int → Int} {k : Nat} (h : nmA s k = true) : nmA s (k + 1) = false := by simp [nmA, h]
theorem nm_pred {s : Int → Int} {k : Nat} (h : nmA s k = true) : ∃ j, k = j + 1 ∧ nmA s j = false ∧ (s j = 108 ∨ s j = 64) := by
  cases k with
  | zero => simp [nmA] at h
  | succ k =>
    simp only [nmA, Bool.and_eq_true, Bool.not_eq_true', Bool.or_eq_true, decide_eq_true_eq] at h
    exact ⟨k, rfl, h.1, h.2⟩
/-- where the first term in a part begins -/
def c0A (s : Int → Int) (p : Nat) : Nat := if s p = 108 ∨ s p = 64 then p + 2 else p + 1
def feA (s : Int → Int) (v : Int) : Nat → Nat → Nat
  | 0, e => e
  | f + 1, e => if opA s e < v then e else feA s v f (e + 1)
/-- the end of a part: the first place behind it at which fewer terms are due -/
def enA (n : Nat) (s : Int → Int) (p : Nat) : Nat := feA s (opA s p) (n - p - 1) (p + 1)
theorem fe_spec {s : Int → Int} {v : Int} : ∀ (f e : Nat), opA s (e + f) < v → e ≤ feA s v f e ∧ feA s v f e ≤ e + f ∧ opA s (feA s v f e) < v ∧ ∀ x, e ≤ x → x < feA s v f e → v ≤ opA s x
  | 0, e, h => ⟨Nat.le_refl _, Nat.le_refl _, h, fun x h1 h2 => by simp only [feA] at h2; omega⟩
  | f + 1, e, h => by
    simp only [feA]
    split
    · rename_i h1
      exact ⟨Nat.le_refl _, by omega, h1, fun x h2 h3 => by omega⟩
    · rename_i h1
      obtain ⟨a, b, c, d⟩ := fe_spec (s := s) (v := v) f (e + 1) (by rw [show e + 1 + f = e + (f + 1) by omega]; exact h)
      refine ⟨by omega, by omega, c, fun x h2 h3 => ?_⟩
      rcases Nat.eq_or_lt_of_le h2 with q | q
      · subst q; omega
      · exact d x q h3
section GOOD
variable {n : Nat} {s : Int → Int}
theorem Good_n (h : GoodA n s) : 0 < n := by
  rcases Nat.eq_zero_or_pos n with q | q
  · subst q; have := h.2.1; simp [opA] at this
  · exact q
theorem op1 (h : GoodA n s) {k : Nat} (hk : k < n) : 1 ≤ opA s k := (op_pos h.1 k (by omega)).2 hk
theorem en_spec (h : GoodA n s) {p : Nat} (hp : p < n) : p < enA n s p ∧ enA n s p ≤ n ∧ opA s (enA n s p) < opA s p ∧ ∀ x, p < x → x < enA n s p → opA s p ≤ opA s x := by
  have h1 := op1 h hp
  obtain ⟨a, b, c, d⟩ := fe_spec (s := s) (v := opA s p) (n - p - 1) (p + 1) (by rw [show p + 1 + (n - p - 1) = n by omega, h.2.1]; omega)
  exact ⟨a, by unfold enA; omega, c, d⟩
theorem en_uniq (h : GoodA n s) {p e : Nat} (hp : p < n) (h1 : p < e) (h2 : e ≤ n) (h3 : opA s e < opA s p) (h4 : ∀ x, p < x → x < e → opA s p ≤ opA s x) : enA n s p = e := by
  obtain ⟨a, b, c, d⟩ := en_spec h hp
  rcases Nat.lt_trichotomy (enA n s p) e with q | q | q
  · have := h4 _ a q; omega
  · exact q
  · have := d _ h1 q; omega
theorem en_op (h : GoodA n s) {p : Nat} (hp : p < n) : opA s (enA n s p) = opA s p - 1 ∧ nmA s (enA n s p) = false := by
  obtain ⟨a, b, c, d⟩ := en_spec h hp
  obtain ⟨e, he⟩ : ∃ e, enA n s p = e + 1 := ⟨enA n s p - 1, by omega⟩
  rw [he] at a b c d ⊢
  have h1 : opA s p ≤ opA s e := by
    rcases Nat.eq_or_lt_of_le (Nat.le_of_lt_succ a) with q | q
    · subst q; exact Int.le_refl _
    · exact d e q (by omega)
  have h2 := op_low (s := s) e
  refine ⟨by omega, ?_⟩
  cases h3 : nmA s e
  · have h4 := op_step h3
    cases h5 : nmA s (e + 1)
    · rfl
    · have := inn_nam ((nm_next h3).mp h5)
      omega
  · exact nm_after h3
theorem c0_spec (h : GoodA n s) {p : Nat} (hp : p < n) (hm : nmA s p = false) : p < c0A s p ∧ c0A s p ≤ n ∧ nmA s (c0A s p) = false ∧ opA s (c0A s p) = opA s p + inn (kos (s p)) - 1 ∧ (∀ x, p < x → x < c0A s p → opA s p ≤ opA s x ∧ nmA s x = true) := by
  unfold c0A
  split
  · rename_i hs
    have h1 := (nm_next hm).mpr hs
    have h2 : p + 1 ≠ n := by intro q; rw [q, h.2.2] at h1; cases h1
    have h3 := nm_after h1
    have h4 : opA s (p + 2) = opA s (p + 1) := op_name h1
    have h5 := op_step hm
    have h6 := inn_nam hs
    refine ⟨by omega, by omega, h3, by omega, fun x h7 h8 => ?_⟩
    obtain rfl : x = p + 1 := by omega
    exact ⟨by omega, h1⟩
  · rename_i hs
    refine ⟨by omega, by omega, ?_, op_step hm, fun x h7 h8 => by omega⟩
    cases h1 : nmA s (p + 1)
    · rfl
    · exact absurd ((nm_next hm).mp h1) hs
/-- the second and the third term -/
def c1A (n : Nat) (s : Int → Int) (p : Nat) : Nat := enA n s (c0A s p)
def c2A (n : Nat) (s : Int → Int) (p : Nat) : Nat := enA n s (c1A n s p)
theorem lt_of_op (h : GoodA n s) {k : Nat} (hk : k ≤ n) (h1 : 1 ≤ opA s k) : k < n := by
  rcases Nat.eq_or_lt_of_le hk with q | q
  · rw [q, h.2.1] at h1; omega
  · exact q
theorem kids0 (h : GoodA n s) {p : Nat} (hp : p < n) (hm : nmA s p = false) (ha : inn (kos (s p)) = 0) : enA n s p = c0A s p ∧ c0A s p = p + 1 := by
  obtain ⟨a, b, c, d, e⟩ := c0_spec h hp hm
  refine ⟨en_uniq h hp a b (by omega) (fun x h1 h2 => (e x h1 h2).1), ?_⟩
  unfold c0A
  rw [if_neg]
  intro q
  have := inn_nam q
  omega
theorem kid1 (h : GoodA n s) {p : Nat} (hp : p < n) (hm : nmA s p = false) (ha : 1 ≤ inn (kos (s p))) : c0A s p < n ∧ c0A s p < c1A n s p ∧ c1A n s p ≤ n ∧ opA s (c1A n s p) = opA s p + inn (kos (s p)) - 2 ∧ nmA s (c1A n s p) = false ∧ (∀ x, p < x → x < c1A n s p → opA s p ≤ opA s x) := by
  obtain ⟨a, b, c, d, e⟩ := c0_spec h hp hm
  have h1 := op1 h hp
  have h2 := lt_of_op h b (by omega)
  obtain ⟨f1, f2, f3, f4⟩ := en_spec h h2
  obtain ⟨g1, g2⟩ := en_op h h2
  refine ⟨h2, f1, f2, by unfold c1A; omega, g2, fun x h3 h4 => ?_⟩
  rcases Nat.lt_trichotomy x (c0A s p) with q | q | q
  · exact (e x h3 q).1
  · subst q; omega
  · have := f4 x q h4; omega
theorem kids1 (h : GoodA n s) {p : Nat} (hp : p < n) (hm : nmA s p = false) (ha : inn (kos (s p)) = 1) : enA n s p = c1A n s p := by
  obtain ⟨a, b, c, d, e, f⟩ := kid1 h hp hm (by omega)
  have := (c0_spec h hp hm).1
  exact en_uniq h hp (by omega) c (by omega) f
theorem kid2 (h : GoodA n s) {p : Nat} (hp : p < n) (hm : nmA s p = false) (ha : 2 ≤ inn (kos (s p))) : c1A n s p < n ∧ c1A n s p < c2A n s p ∧ c2A n s p ≤ n ∧ opA s (c2A n s p) = opA s p + inn (kos (s p)) - 3 ∧ nmA s (c2A n s p) = false ∧ (∀ x, p < x → x < c2A n s p → opA s p ≤ opA s x) := by
  obtain ⟨a, b, c, d, e, f⟩ := kid1 h hp hm (by omega)
  have h1 := op1 h hp
  have h2 := lt_of_op h c (by omega)
  obtain ⟨f1, f2, f3, f4⟩ := en_spec h h2
  obtain ⟨g1, g2⟩ := en_op h h2
  refine ⟨h2, f1, f2, by unfold c2A; omega, g2, fun x h3 h4 => ?_⟩
  rcases Nat.lt_trichotomy x (c1A n s p) with q | q | q
  · exact f x h3 q
  · subst q; omega
  · have := f4 x q h4; omega
theorem kids2 (h : GoodA n s) {p : Nat} (hp : p < n) (hm : nmA s p = false) (ha : inn (kos (s p)) = 2) : enA n s p = c2A n s p := by
  obtain ⟨a, b, c, d, e, f⟩ := kid2 h hp hm (by omega)
  have := (c0_spec h hp hm).1
  have := kid1 h hp hm (by omega)
  exact en_uniq h hp (by omega) c (by omega) f
theorem kids3 (h : GoodA n s) {p : Nat} (hp : p < n) (hm : nmA s p = false) (ha : inn (kos (s p)) = 3) : c2A n s p < n ∧ enA n s p = enA n s (c2A n s p) := by
  obtain ⟨a, b, c, d, e, f⟩ := kid2 h hp hm (by omega)
  have h1 := op1 h hp
  have h2 := lt_of_op h c (by omega)
  obtain ⟨f1, f2, f3, f4⟩ := en_spec h h2
  obtain ⟨g1, g2⟩ := en_op h h2
  have := (c0_spec h hp hm).1
  have := kid1 h hp hm (by omega)
  refine ⟨h2, en_uniq h hp (by omega) f2 (by omega) fun x h3 h4 => ?_⟩
  rcases Nat.lt_trichotomy x (c2A n s p) with q | q | q
  · exact f x h3 q
  · subst q; omega
  · have := f4 x q h4; omega
/-- two parts: one in the other, or apart -/
theorem nest (h : GoodA n s) {p q : Nat} (hp : p < n) (hq : p < q) (hqe : q < enA n s p) : enA n s q ≤ enA n s p := by
  obtain ⟨a, b, c, d⟩ := en_spec h hp
  have hqn : q < n := by omega
  obtain ⟨a', b', c', d'⟩ := en_spec h hqn
  have h1 := d q hq hqe
  rcases Nat.lt_or_ge (enA n s p) (enA n s q) with x | x
  · have := d' _ hqe x; omega
  · exact x
theorem en_root (h : GoodA n s) : enA n s 0 = n := by
  have hn := Good_n h
  refine en_uniq h hn hn (Nat.le_refl _) (by rw [h.2.1]; simp [opA]) fun x _ h2 => ?_
  have := op1 h h2
  simp only [opA]; omega
end GOOD
/-- the last place below k where f holds; none: -6 -/
def lastA (f : Nat → Bool) : Nat → Int
  | 0 => -6
  | k + 1 => if f k = true then (k : Int) else lastA f k
theorem last_spec (f : Nat → Bool) : ∀ k : Nat, (lastA f k = -6 ∧ ∀ j, j < k → f j = false) ∨ ∃ q : Nat, q < k ∧ lastA f k = q ∧ f q = true ∧ ∀ j, q < j → j < k → f j = false
  | 0 => Or.inl ⟨rfl, fun j h => by omega⟩
  | k + 1 => by
    simp only [lastA]
    cases h : f k
    · simp only [Bool.false_eq_true, if_false]
      rcases last_spec f k with ⟨a, b⟩ | ⟨q, a, b, c, d⟩
      · refine Or.inl ⟨a, fun j hj => ?_⟩
        rcases Nat.eq_or_lt_of_le (Nat.le_of_lt_succ hj) with e | e
        · subst e; exact h
        · exact b j e
      · refine Or.inr ⟨q, by omega, b, c, fun j h1 h2 => ?_⟩
        rcases Nat.eq_or_lt_of_le (Nat.le_of_lt_succ h2) with e | e
        · subst e; exact h
        · exact d j h1 e
    · simp only [if_true]
      exact Or.inr ⟨k, by omega, rfl, h, fun j h1 h2 => by omega⟩
theorem last_uniq {f : Nat → Bool} {k q : Nat} (h1 : q < k) (h2 : f q = true) (h3 : ∀ j, q < j → j < k → f j = false) : lastA f k = q := by
  rcases last_spec f k with ⟨a, b⟩ | ⟨r, a, b, c, d⟩
  · rw [b q h1] at h2; cases h2
  · rcases Nat.lt_trichotomy q r with e | e | e
    · rw [h3 r e a] at c; cases c
    · subst e; exact b
    · rw [d q e h1] at h2; cases h2
theorem last_none {f : Nat → Bool} {k : Nat} (h : ∀ j, j < k → f j = false) : lastA f k = -6 := by
  rcases last_spec f k with ⟨a, b⟩ | ⟨r, a, b, c, d⟩
  · exact a
  · rw [h r a] at c; cases c
/-- the part in which a part stands -/
def parA (n : Nat) (s : Int → Int) (q : Nat) : Int := lastA (fun p => !nmA s p && decide (q < enA n s p)) q
/-- the let that binds the letter at p -/
def bnA (n : Nat) (s : Int → Int) (p : Nat) : Int := lastA (fun q => !nmA s q && (decide (s q = 108) && (decide (s ((q : Int) + 1) = s p) && (decide (c1A n s q ≤ p) && decide (p < enA n s q))))) p
/-- how many of the first k places fulfil f -/
def cntA (f : Nat → Bool) : Nat → Nat
  | 0 => 0
  | k + 1 => cntA f k + if f k = true then 1 else 0
theorem cnt_le (f : Nat → Bool) : ∀ k, cntA f k ≤ k
  | 0 => Nat.le_refl _
  | k + 1 => by have := cnt_le f k; simp only [cntA]; split <;> omega
theorem cnt_mono {f g : Nat → Bool} : ∀ {k : Nat}, (∀ j, j < k → f j = true → g j = true) → cntA f k ≤ cntA g k
  | 0, _ => Nat.le_refl _
  | k + 1, h => by
    have := cnt_mono (k := k) fun j hj => h j (by omega)
    simp only [cntA]
    split
    · rename_i q; rw [if_pos (h k (by omega) q)]; omega
    · split <;> omega
theorem cnt_lt {f g : Nat → Bool} : ∀ {k : Nat}, (∀ j, j < k → f j = true → g j = true) → ∀ x, x < k → f x = false → g x = true → cntA f k < cntA g k
  | 0, _, x, hx, _, _ => by omega
  | k + 1, h, x, hx, h1, h2 => by
    simp only [cntA]
    rcases Nat.eq_or_lt_of_le (Nat.le_of_lt_succ hx) with q | q
    · subst q
      have := cnt_mono (k := x) fun j hj => h j (by omega)
      rw [if_neg (by rw [h1]; decide), if_pos h2]; omega
    · have := cnt_lt (k := k) (fun j hj => h j (by omega)) x q h1 h2
      split
      · rename_i q; rw [if_pos (h k (by omega) q)]; omega
      · split <;> omega
theorem cnt_lt_all {f : Nat → Bool} {k x : Nat} (hx : x < k) (h : f x = false) : cntA f k < k := by
  have h1 := cnt_lt (f := f) (g := fun _ => true) (k := k) (fun _ _ _ => rfl) x hx h rfl
  have h2 := cnt_le (fun _ => true) k
  omega
theorem cnt_cong {f g : Nat → Bool} {k : Nat} (h : ∀ j, j < k → f j = g j) : cntA f k = cntA g k :=
  Nat.le_antisymm (cnt_mono fun j hj q => by rw [← h j hj]; exact q) (cnt_mono fun j hj q => by rw [h j hj]; exact q)
