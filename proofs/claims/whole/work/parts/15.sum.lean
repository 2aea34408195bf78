def inn (k : Int) : Int := if k < 3 then 0 else if k < 6 ∨ k = 9 then 1 else if k = 7 then 3 else 2
def nmf (s n : Int) : Int := if (if s = 108 then 97 ≤ n ∧ n ≤ 100 else 48 ≤ n ∧ n ≤ 50) then 1 else 0
def tin (s : Int) : Int := if s = 110 ∨ s = 42 ∨ s = 45 ∨ s = 64 then 1 else if s = 43 ∨ s = 108 then 2 else if s = 63 then 3 else if s = 120 ∨ (48 ≤ s ∧ s ≤ 57) ∨ (97 ≤ s ∧ s ≤ 100) then 0 else -1
def kos (s : Int) : Int := if 48 ≤ s ∧ s ≤ 57 then 0 else if 97 ≤ s ∧ s ≤ 100 then 2 else if s = 120 then 1 else if s = 110 then 3 else if s = 42 then 4 else if s = 45 then 5 else if s = 43 then 6 else if s = 63 then 7 else if s = 108 then 8 else if s = 64 then 9 else -6
def S1 : ST := fun y as σ => match y, as with
  | 0, [.inr (.inl (some (t, i))), .inl j] => bif Nat.beq (cls t) 3 then some (none, .inl (rg (ndI alL (rf t 0)) (σ (rf t 0) i) j), σ) else none
  | 1, [.inr (.inl (some (t, i))), .inl j, .inl x] => bif Nat.beq (cls t) 3 then some (none, vu, us (ndI alL (rf t 0)) σ (rf t 0) i j x) else none
  | 3, [.inl n, .inl lo, .inl hi] => some (none, .inl (if lo ≤ n ∧ n ≤ hi then 1 else 0), σ)
  | 9, [.inl n, .inl lo, .inl hi] => some (none, .inl (if lo ≤ n ∧ n ≤ hi then 1 else 0), σ)
  | 6, [.inl s] => some (none, .inl (if s = 108 ∨ s = 64 then 1 else 0), σ)
  | 12, [.inl k] => some (none, .inl (inn k), σ)
  | 13, [.inr (.inl (some (62, 0))), .inl b, .inl a] => some (some (ir (42 * b) ∧ ir (42 * b + a) ∧ ir (40 * b) ∧ ir (42 * b + a - 40 * b)), .inl (42 * b + a - 40 * b), σ)
  | 14, [.inr (.inl (some (62, 0))), .inl a] => some (some (ir (a + 1) ∧ (0 ≤ a + 1 ∧ a + 1 < 120) ∧ ir (σ 66 0 (a + 1) - 48)), .inl (σ 66 0 (a + 1) - 48), σ)
  | 16, [.inr (.inl (some (t, i))), .inl p] => bif Nat.beq (cls t) 7 then some (none, .inl (if 0 ≤ p ∧ p < σ t i 1 then 1 else 0), σ) else none
  | 17, [.inr (.inl (some (t, i)))] => bif Nat.beq (cls t) 7 then some (some (ir (10 * σ t i 2) ∧ ir (10 * σ t i 2 + σ t i 3)), .inl (10 * σ t i 2 + σ t i 3), σ) else none
  | _, _ => none
