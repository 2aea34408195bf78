/-! ===== agreement: mixed ===== -/
def dbl (x : Int) : Nat → Int
  | 0 => x
  | n + 1 => 2 * dbl x n
theorem dbl_lt {x y : Int} (n : Nat) : dbl x n < dbl y n ↔ x < y := by
  induction n with
  | zero => exact Iff.rfl
  | succ n ih => show 2 * dbl x n < 2 * dbl y n ↔ x < y; omega
theorem dbl_le {x y : Int} (n : Nat) : dbl x n ≤ dbl y n ↔ x ≤ y := by
  induction n with
  | zero => exact Iff.rfl
  | succ n ih => show 2 * dbl x n ≤ 2 * dbl y n ↔ x ≤ y; omega
theorem dbl_add (x : Int) (m n : Nat) : dbl (dbl x m) n = dbl x (m + n) := by
  induction n with
  | zero => rfl
  | succ n ih => show 2 * dbl (dbl x m) n = 2 * dbl x (m + n); rw [ih]
theorem dbl_two (x : Int) (n : Nat) : dbl (2 * x) n = 2 * dbl x n := by
  induction n with
  | zero => rfl
  | succ n ih => show 2 * dbl (2 * x) n = 2 * (2 * dbl x n); rw [ih]
theorem dbl_11 (x : Int) : dbl x 11 = x * 2048 := by
  show 2 * (2 * (2 * (2 * (2 * (2 * (2 * (2 * (2 * (2 * (2 * (x))))))))))) = x * 2048
  omega
theorem dbl_23 (x : Int) : dbl x 23 = x * 8388608 := by
  show 2 * (2 * (2 * (2 * (2 * (2 * (2 * (2 * (2 * (2 * (2 * (2 * (2 * (2 * (2 * (2 * (2 * (2 * (2 * (2 * (2 * (2 * (2 * (x))))))))))))))))))))))) = x * 8388608
  omega
theorem dbl_24 (x : Int) : dbl x 24 = x * 16777216 := by
  show 2 * (2 * (2 * (2 * (2 * (2 * (2 * (2 * (2 * (2 * (2 * (2 * (2 * (2 * (2 * (2 * (2 * (2 * (2 * (2 * (2 * (2 * (2 * (2 * (x)))))))))))))))))))))))) = x * 16777216
  omega
theorem dbl_nn {x : Int} (h : 0 ≤ x) (n : Nat) : 0 ≤ dbl x n := by
  induction n with
  | zero => exact h
  | succ n ih => show 0 ≤ 2 * dbl x n; omega
theorem dbl_mono {x : Int} (h : 0 ≤ x) (m n : Nat) : dbl x m ≤ dbl x (m + n) := by
  induction n with
  | zero => exact Int.le_refl _
  | succ n ih =>
    have := dbl_nn h (m + n)
    show dbl x m ≤ 2 * dbl x (m + n)
    omega
theorem dbl_div (x B : Int) (q : Nat) : dbl x q / dbl B q = x / B := by
  induction q with
  | zero => rfl
  | succ q ih => show (2 * dbl x q) / (2 * dbl B q) = x / B; rw [Int.mul_ediv_mul_of_pos _ _ (by decide)]; exact ih
theorem dbl_mod (x B : Int) (q : Nat) : dbl x q % dbl B q = dbl (x % B) q := by
  induction q with
  | zero => rfl
  | succ q ih => show (2 * dbl x q) % (2 * dbl B q) = 2 * dbl (x % B) q; rw [Int.mul_emod_mul_of_pos _ _ (by decide), ih]
theorem dm_step {x B : Int} (hB : 0 < B) : 2 * (x / B) + ((x % B) * 2) / B = (2 * x) / B ∧ ((x % B) * 2) % B = (2 * x) % B := by
  have h := Int.mul_ediv_add_emod x B
  have e : 2 * x = (x % B) * 2 + B * (2 * (x / B)) := by
    have : B * (2 * (x / B)) = 2 * (B * (x / B)) := Int.mul_left_comm _ _ _
    omega
  rw [e, Int.add_mul_ediv_left _ _ (by omega), Int.add_mul_emod_self_left]
  exact ⟨by omega, rfl⟩
theorem irZ {x : Int} (h1 : -2147483648 ≤ x) (h2 : x ≤ 2147483647) : ir x := ⟨h1, h2⟩
theorem ilZ {x : Int} (h1 : -1000000000000000 ≤ x) (h2 : x ≤ 1000000000000000) : il x := by unfold il; omega
theorem lc_gt {x y : Int} : 0 < lc x y ↔ y < x := by
  unfold lc; split
  · omega
  · split <;> omega
theorem lc_lt {x y : Int} : lc x y < 0 ↔ x < y := by
  unfold lc; split
  · omega
  · split <;> omega
theorem lc_eq {x y : Int} : lc x y = 0 ↔ x = y := by
  unfold lc; split
  · omega
  · split <;> omega
/-- the bits of A / B: k is how often A is doubled till it is 2 ^ 23 times B -/
def mxv (A B : Int) (k : Nat) : Int := (150 - (k : Int)) * 8388608 + ((dbl A k / B + (if B < 2 * (dbl A k % B) ∨ (B = 2 * (dbl A k % B) ∧ dbl A k / B % 2 = 1) then 1 else 0)) - 8388608)
theorem mxv_up {A B w r : Int} {k : Nat} (hw : w = dbl A k / B) (hr : r = dbl A k % B) (h : B < 2 * r ∨ (B = 2 * r ∧ w % 2 = 1)) : mxv A B k = (150 - (k : Int)) * 8388608 + (w + 1 - 8388608) := by
  subst hw; subst hr
  unfold mxv
  rw [if_pos h]
theorem mxv_dn {A B w r : Int} {k : Nat} (hw : w = dbl A k / B) (hr : r = dbl A k % B) (h : ¬ (B < 2 * r ∨ (B = 2 * r ∧ w % 2 = 1))) : mxv A B k = (150 - (k : Int)) * 8388608 + (w - 8388608) := by
  subst hw; subst hr
  unfold mxv
  rw [if_neg h, Int.add_zero]
section MIX
variable {d : Nat} {P : AV → SS → Prop} {σ : SS} {A B : Int}
theorem q46_2 {p : Nat} {a : Int} (hp : p ≤ 10) (ha : a ≤ 1200) (hB : 1 ≤ B ∧ B ≤ 600)
    (fin : ∀ (q : Nat) (b e : Int), q ≤ 10 → b = dbl B q → e = 127 - (p : Int) + (q : Int) → b ≤ a → a < 2 * b → G (d + 0) P 46 48 [vu, vu, vl a, vu, vl b, vu, vi e, vu, vu, vu, vu, vu, vu] [] σ) :
    ∀ (m q : Nat) (b e i : Int), q + m = 11 → i = q → b = dbl B q → e = 127 - (p : Int) + (q : Int) → b ≤ a → G (d + 0) P 46 32 [vu, vu, vl a, vu, vl b, vu, vi e, vi i, vu, vu, vu, vu, vu] [] σ := by
  intro m
  induction m with
  | zero =>
    intro q b e i hq hi hb he hba
    obtain rfl : q = 11 := by omega
    rw [dbl_11] at hb
    omega
  | succ m ih =>
    intro q b e i hq hi hb he hba
    have hb0 : 0 ≤ dbl B q := dbl_nn (by omega) q
    refine b_46_32 (d := d) ⟨fun w => absurd w (by omega), fun _ => ⟨ilZ (by omega) (by omega), fun h => fin q b e (by omega) hb he hba (lc_lt.mp h), fun h => ⟨ilZ (by omega) (by omega), irI (by omega) (by omega), irI (by omega) (by omega), ih (q + 1) (b * 2) (e + 1) (i + 1) (by omega) (by omega) ?_ (by omega) ?_⟩⟩⟩
    · show b * 2 = 2 * dbl B q
      omega
    · have : ¬ a < 2 * b := fun w => by have := lc_lt.mpr w; omega
      omega
theorem q46_1 (hA : 1 ≤ A ∧ A ≤ 600) (hB : 1 ≤ B ∧ B ≤ 600)
    (fin : ∀ (p q : Nat) (a b e : Int), p ≤ 10 → q ≤ 10 → a = dbl A p → b = dbl B q → e = 127 - (p : Int) + (q : Int) → b ≤ a → a < 2 * b → a ≤ 1200 → G (d + 0) P 46 48 [vu, vu, vl a, vu, vl b, vu, vi e, vu, vu, vu, vu, vu, vu] [] σ) :
    ∀ (m p : Nat) (a e i : Int), p + m = 11 → i = p → a = dbl A p → e = 127 - (p : Int) → (p = 0 ∨ a < 2 * B) → G (d + 0) P 46 16 [vu, vu, vl a, vu, vl B, vu, vi e, vi i, vu, vu, vu, vu, vu] [] σ := by
  intro m
  induction m with
  | zero =>
    intro p a e i hp hi ha he h0
    obtain rfl : p = 11 := by omega
    rw [dbl_11] at ha
    omega
  | succ m ih =>
    intro p a e i hp hi ha he h0
    have ha0 : 0 ≤ dbl A p := dbl_nn (by omega) p
    have ha1 : a ≤ 1200 := by
      rcases h0 with rfl | h0
      · have : dbl A 0 = A := rfl
        omega
      · omega
    refine b_46_16 (d := d) ⟨fun w => absurd w (by omega), fun _ => ⟨fun h => q46_2 (p := p) (a := a) (by omega) ha1 hB (fun q b e q1 q2 q3 q4 q5 => fin p q a b e (by omega) q1 ha q2 q3 q4 q5 ha1) 11 0 B e 0 rfl rfl rfl (by omega) ?_, fun h => ⟨ilZ (by omega) (by omega), irI (by omega) (by omega), irI (by omega) (by omega), ih (p + 1) (a * 2) (e + (-1)) (i + 1) (by omega) (by omega) ?_ (by omega) (Or.inr ?_)⟩⟩⟩
    · have : ¬ a < B := fun w => by have := lc_lt.mpr w; omega
      omega
    · show a * 2 = 2 * dbl A p
      omega
    · have := lc_lt.mp h
      omega
theorem q46_3 {k q : Nat} {a b e r w : Int} (hk : k ≤ 33) (hb : b = dbl B q) (hb2 : 0 < b ∧ b ≤ 1200) (ha : 0 ≤ a ∧ a ≤ 1200) (he : e = 150 - (k : Int)) (hw : w = dbl A k / B) (hr : r = dbl A k % B) (h1 : a * 8388608 / b = w) (h2 : a * 8388608 % b = dbl r q) (h3 : 8388608 ≤ w ∧ w < 16777216) (fin : P (vi (mxv A B k)) σ) :
    G (d + 0) P 46 48 [vu, vu, vl a, vu, vl b, vu, vi e, vu, vu, vu, vu, vu, vu] [] σ := by
  have m1 := Int.emod_lt_of_pos (a * 8388608) hb2.1
  have m0 := Int.emod_nonneg (a * 8388608) (show b ≠ 0 by omega)
  have hP : ∀ x, x = mxv A B k → P (vi x) σ := fun x h => by rw [h]; exact fin
  have h80 : ∀ w', 8388608 ≤ w' → w' ≤ 16777216 → mxv A B k = (150 - (k : Int)) * 8388608 + (w' - 8388608) → G (d + 0) P 46 80 [vu, vu, vu, vu, vu, vu, vi e, vu, vu, vl w', vu, vu, vu] [] σ := fun w' w1 w2 w3 =>
    b_46_80 (d := d) ⟨⟨by omega, rfl, ilZ (by omega) (by omega)⟩, ilZ (by omega) (by omega), ilZ (by omega) (by omega), irZ (by omega) (by omega), hP _ (by rw [w3, he])⟩
  refine b_46_48 (d := d) ⟨⟨ha.1, rfl, ilZ (by omega) (by omega)⟩, ⟨by omega, hb2.1⟩, ⟨by omega, hb2.1⟩, ilZ (by omega) (by omega), ?_⟩
  rw [h1]
  have e1 : b < 2 * (a * 8388608 % b) ↔ B < 2 * r := by rw [h2, ← dbl_two, hb]; exact dbl_lt q
  have e2 : 2 * (a * 8388608 % b) < b ↔ 2 * r < B := by rw [h2, ← dbl_two, hb]; exact dbl_lt q
  refine b_46_62 (d := d) ⟨fun h => ⟨ilZ (by omega) (by omega), h80 _ (by omega) (by omega) (mxv_up hw hr (Or.inl (e1.mp (lc_gt.mp h))))⟩, fun h => ⟨fun h' => h80 _ (by omega) (by omega) (mxv_dn hw hr ?_), fun h' => ⟨⟨by omega, rfl⟩, fun g => h80 _ (by omega) (by omega) (mxv_dn hw hr ?_), fun g => ⟨ilZ (by omega) (by omega), h80 _ (by omega) (by omega) (mxv_up hw hr (Or.inr ⟨?_, lc_eq.mp g⟩))⟩⟩⟩⟩
  · have g1 : ¬ b < 2 * (a * 8388608 % b) := fun z => by have := lc_gt.mpr z; omega
    have g2 : ¬ 2 * (a * 8388608 % b) = b := fun z => h' (lc_eq.mpr z)
    have g3 : 2 * r < B := e2.mp (by omega)
    omega
  · have g1 := lc_eq.mp h'
    have g2 : ¬ w % 2 = 1 := fun z => g (lc_eq.mpr z)
    have g3 : ¬ B < 2 * r := fun z => by have := e1.mpr z; omega
    exact fun z => z.elim g3 fun y => g2 y.2
  · have g1 := lc_eq.mp h'
    have g3 : ¬ B < 2 * r := fun z => by have := e1.mpr z; omega
    have g4 : ¬ 2 * r < B := fun z => by have := e2.mpr z; omega
    omega
/-- k: how often A is doubled -/
def mxk (A B : Int) (k : Nat) : Prop := k ≤ 33 ∧ (∀ j : Nat, j < k → dbl A j < 8388608 * B) ∧ 8388608 * B ≤ dbl A k ∧ dbl A k < 16777216 * B
theorem mxk_of {p q k : Nat} (hA : 0 ≤ A) (hk : k + q = p + 23) (hp : p ≤ 10) (h1 : dbl B q ≤ dbl A p) (h2 : dbl A p < 2 * dbl B q) : mxk A B k := by
  have e24 := dbl_24 B
  have e23 := dbl_23 B
  have s1 : dbl A (k + q) = dbl (dbl A p) 23 := by rw [dbl_add, hk]
  refine ⟨by omega, fun j hj => ?_, ?_, ?_⟩
  · have : dbl (dbl A j) q < dbl (dbl B 23) q := by
      rw [dbl_add, dbl_add]
      have t1 : dbl A (j + q) ≤ dbl A (p + 22) := by
        rw [show p + 22 = (j + q) + (p + 22 - (j + q)) by omega]
        exact dbl_mono hA _ _
      have t2 : dbl A (p + 22) < dbl B (23 + q) := by
        rw [← dbl_add, show 23 + q = (q + 1) + 22 by omega, ← dbl_add B (q + 1) 22]
        exact (dbl_lt 22).mpr h2
      omega
    have := (dbl_lt q).mp this
    omega
  · have : dbl (dbl B 23) q ≤ dbl (dbl A k) q := by
      rw [dbl_add A, s1, dbl_add B, show 23 + q = q + 23 by omega, ← dbl_add]
      exact (dbl_le 23).mpr h1
    have := (dbl_le q).mp this
    omega
  · have : dbl (dbl A k) q < dbl (dbl B 24) q := by
      rw [dbl_add A, s1, dbl_add B, show 24 + q = (q + 1) + 23 by omega, ← dbl_add B (q + 1) 23]
      exact (dbl_lt 23).mpr h2
    have := (dbl_lt q).mp this
    omega
theorem mxw {k : Nat} (hB : 1 ≤ B) (h : mxk A B k) : 8388608 ≤ dbl A k / B ∧ dbl A k / B < 16777216 := ⟨(Int.le_ediv_iff_mul_le (by omega)).mpr h.2.2.1, (Int.ediv_lt_iff_lt_mul (by omega)).mpr h.2.2.2⟩
theorem q46 (hA : 1 ≤ A ∧ A ≤ 600) (hB : 1 ≤ B ∧ B ≤ 600) : ∃ k, mxk A B k ∧ Rn (d + 1) 46 [vi A, vi B] σ (vi (mxv A B k)) σ := by
  have key : Ok (d + 1) 46 [vi A, vi B] σ (fun v σ' => ∃ k, mxk A B k ∧ v = vi (mxv A B k) ∧ σ' = σ) := by
    refine G_ok rfl (b_46_0 (d := d) ⟨fun w => absurd w (by omega), fun _ => ⟨fun _ => q46_1 hA hB (fun p q a b e p1 q1 ha hb he h1 h2 h3 => ?_) 11 0 A 127 0 rfl rfl rfl rfl (Or.inl rfl), fun w => absurd w (by omega)⟩⟩)
    have hk : (p + 23 - q) + q = p + 23 := by omega
    have hm : mxk A B (p + 23 - q) := mxk_of (by omega) hk p1 (by omega) (by omega)
    have b0 : 0 < b := by
      have := dbl_nn (x := B) (by omega) q
      omega
    have e1 : a * 8388608 = dbl (dbl A (p + 23 - q)) q := by rw [dbl_add, hk, ← dbl_add, dbl_23, ← ha]
    refine q46_3 (A := A) (B := B) (k := p + 23 - q) (q := q) hm.1 hb ⟨b0, by omega⟩ ⟨by omega, h3⟩ (by omega) rfl rfl ?_ ?_ (mxw hB.1 hm) ⟨_, hm, rfl, rfl⟩
    · rw [e1, hb, dbl_div]
    · rw [e1, hb, dbl_mod]
  obtain ⟨v, σ', h1, k, h2, rfl, rfl⟩ := key
  exact ⟨k, h2, h1⟩
theorem q84 {k : Nat} (hB : 1 ≤ B ∧ B ≤ 600) (h40 : σ 62 0 40 = B) (hm : mxk A B k) (fin : P (vi (mxv A B k)) σ) :
    ∀ (m j : Nat) (l4 l5 l6 : Int), j + m = k → l4 = dbl A j / B → l5 = dbl A j % B → l6 = -(j : Int) → 0 ≤ l4 → G (d + 7) P 84 38 [vr 62 0, vu, vu, vu, vi l4, vi l5, vi l6] [] σ := by
  have hP : ∀ x, x = mxv A B k → P (vi x) σ := fun x h => by rw [h]; exact fin
  have hk := hm.1
  have h79 : ∀ (w' l6 : Int), l6 = -(k : Int) → 8388608 ≤ w' → w' ≤ 16777216 → mxv A B k = (150 - (k : Int)) * 8388608 + (w' - 8388608) → G (d + 7) P 84 79 [vu, vu, vu, vu, vi w', vu, vi l6] [] σ := by
    intro w' l6 hl w1 w2 w3
    refine b_84x_79 (d := d) ⟨fun _ => b_84x_87 (d := d) ⟨irI (by omega) (by omega), irI (by omega) (by omega), irZ (by omega) (by omega), irZ (by omega) (by omega), irZ (by omega) (by omega), hP _ (by omega)⟩, fun q => ⟨⟨by omega, by decide⟩, irI (by omega) (by omega), b_84x_87 (d := d) ⟨irI (by omega) (by omega), irI (by omega) (by omega), irZ (by omega) (by omega), irZ (by omega) (by omega), irZ (by omega) (by omega), hP _ (by omega)⟩⟩⟩
  intro m
  induction m with
  | zero =>
    intro j l4 l5 l6 hj h4 h5 h6 h0
    obtain rfl : j = k := by omega
    have hw := mxw hB.1 hm
    rw [← h4] at hw
    have m1 := Int.emod_lt_of_pos (dbl A j) (show 0 < B by omega)
    have m0 := Int.emod_nonneg (dbl A j) (show B ≠ 0 by omega)
    rw [← h5] at m1 m0
    refine b_84x_38 (d := d) ⟨fun _ => ⟨irI (by omega) (by omega), ?_⟩, fun w => absurd w (by omega)⟩
    rw [h40]
    refine ⟨fun h => b_84x_78 (d := d) ⟨irI (by omega) (by omega), h79 _ _ h6 (by omega) (by omega) (mxv_up h4 h5 (Or.inl h))⟩, fun h => ⟨irI (by omega) (by omega), fun g => h79 _ _ h6 (by omega) (by omega) (mxv_dn h4 h5 (by omega)), fun g => ⟨⟨h0, by decide⟩, fun f => h79 _ _ h6 (by omega) (by omega) (mxv_dn h4 h5 (by omega)), fun f => b_84x_78 (d := d) ⟨irI (by omega) (by omega), h79 _ _ h6 (by omega) (by omega) (mxv_up h4 h5 (Or.inr ⟨g.symm, f⟩))⟩⟩⟩⟩
  | succ m ih =>
    intro j l4 l5 l6 hj h4 h5 h6 h0
    have hl : l4 < 8388608 := by
      rw [h4]
      exact (Int.ediv_lt_iff_lt_mul (by omega)).mpr (hm.2.1 j (by omega))
    have m1 := Int.emod_lt_of_pos (dbl A j) (show 0 < B by omega)
    have m0 := Int.emod_nonneg (dbl A j) (show B ≠ 0 by omega)
    rw [← h5] at m1 m0
    obtain ⟨s1, s2⟩ := dm_step (x := dbl A j) (B := B) (by omega)
    rw [← h4, ← h5] at s1
    rw [← h5] at s2
    have d0 : 0 ≤ l5 * 2 / B := Int.ediv_nonneg (by omega) (by omega)
    have d1 : l5 * 2 / B < 2 := (Int.ediv_lt_iff_lt_mul (by omega)).mpr (by omega)
    refine b_84x_38 (d := d) ⟨fun w => absurd w (by omega), fun _ => ⟨irI (by omega) (by omega), irI (by omega) (by omega), ?_⟩⟩
    rw [h40]
    exact ⟨⟨by omega, by omega⟩, irI (by omega) (by omega), ⟨by omega, by omega⟩, irI (by omega) (by omega), ih (j + 1) _ _ _ (by omega) s1 s2 (by omega) (by omega)⟩
end MIX
/-- mixed -/
theorem ag_39 (a1 a2 : Int) (_ : ir a1) (_ : ir a2) : Agr Inv 39 84 [vi a1, vi a2] := by
  intro k σ hk hI
  obtain ⟨T, hI⟩ := hI
  obtain ⟨x, σ1, r1, r2, r3, r4⟩ := c_refuse hI a1 a2 1
  have cx : x ≠ 0 → Rn 9 39 [vr 0 0, vi a1, vi a2] σ (vi x) σ1 := fun q => G_rn rfl (b_39_0 (d := 1) ⟨x, σ1, r1, fun w => absurd w q, fun _ => ⟨rfl, rfl⟩⟩)
  rcases r4 with ⟨hb, rfl⟩ | ⟨hb, h, rfl⟩ | ⟨hb, hn, hf, hW, rfl⟩ | ⟨hb, hn, hf, hW, hM, hC, h⟩
  · exact ⟨-1, σ1, σ1, cx (by decide), G_rn rfl (b_84x_0 (d := 1) ⟨fun q => absurd (ifB.2.mp q) hb, fun _ => ⟨rfl, rfl⟩⟩), Inv.step ⟨T, r2⟩, r3, r3⟩
  · refine ⟨-2, σ1, σ1, cx (by decide), G_rn rfl (b_84x_0 (d := 1) ⟨fun _ => ⟨fun q => ?_, fun q => ⟨rfl, rfl⟩⟩, fun q => absurd hb (ifB.1.mp q)⟩), Inv.step ⟨T, r2⟩, r3, r3⟩
    rcases h with h | h
    · exact absurd (ifR.2.mp q) h
    · exact absurd h (by decide)
  · obtain ⟨σ2, m1, m2, m3⟩ := m_notwell r2 hW a1 a2
    exact ⟨-5, σ1, σ2, cx (by decide), G_rn rfl (b_84x_0 (d := 1) ⟨fun _ => ⟨fun _ => ⟨-5, σ2, m1, fun _ => b_84x_22 ⟨rfl, rfl⟩, fun q => absurd q (by decide)⟩, fun q => absurd hn (ifR.1.mp q)⟩, fun q => absurd hb (ifB.1.mp q)⟩), Inv.step ⟨T, m2⟩, r3, m3.trans r3⟩
  · obtain ⟨v, σ2, m1, m2, m3⟩ := hM σ1 r2.2.2.1
    have hI2 : Inv (k + 1) σ2 := Inv.step ⟨T, r2.keepM m2 (fun t i j q => by unfold Cmr at q; omega)⟩
    have g2 : σ2 99 = σ 99 := (cmr99 m2).trans r3
    rcases h with ⟨z, rfl⟩ | ⟨z, rfl⟩ <;> rcases m3 with ⟨z', hv, u30, u31, u33, u34, u35, u36, u37, u39, u40, uV, uN⟩ | ⟨z', hv⟩
    · omega
    · exact ⟨-3, σ1, σ2, cx (by decide), G_rn rfl (b_84x_0 (d := 1) ⟨fun _ => ⟨fun _ => ⟨v, σ2, m1, fun _ => b_84x_22 ⟨by rw [hv], rfl⟩, fun q => absurd q (by omega)⟩, fun q => absurd hn (ifR.1.mp q)⟩, fun q => absurd hb (ifB.1.mp q)⟩), hI2, r3, g2⟩
    · obtain ⟨b1, b2, b3, b4⟩ := hC.2 z
      by_cases h0 : σ1 32 0 12 = 0
      · have s46 : Rn 8 46 [vi (σ1 32 0 11), vi (σ1 32 0 12)] σ1 (vi 0) σ1 := G_rn rfl (b_46_0 (d := 7) ⟨fun _ => ⟨rfl, rfl⟩, fun _ => ⟨fun w => absurd w (by omega), fun _ => ⟨rfl, rfl⟩⟩⟩)
        exact ⟨0, σ1, σ2, G_rn rfl (b_39_0 (d := 1) ⟨0, σ1, r1, fun _ => ⟨0, σ1, s46, rfl, rfl⟩, fun w => absurd rfl w⟩), G_rn rfl (b_84x_0 (d := 1) ⟨fun _ => ⟨fun _ => ⟨v, σ2, m1, fun q => absurd q (by omega), fun _ => ⟨fun q => absurd (u40.trans h0) q, fun _ => b_84x_22 ⟨by rw [hv], rfl⟩⟩⟩, fun q => absurd hn (ifR.1.mp q)⟩, fun q => absurd hb (ifB.1.mp q)⟩), hI2, r3, g2⟩
      · obtain ⟨A, eA⟩ : ∃ A, A = σ1 32 0 11 := ⟨_, rfl⟩
        obtain ⟨B, eB⟩ : ∃ B, B = σ1 32 0 12 := ⟨_, rfl⟩
        rw [← eA] at u39 b2 b4
        rw [← eB] at u40 b3 h0
        have hA : 1 ≤ A ∧ A ≤ 600 := ⟨b4 (by omega), b2.2⟩
        have hB : 1 ≤ B ∧ B ≤ 600 := by omega
        obtain ⟨k', hk', r46⟩ := q46 (d := 7) (σ := σ1) hA hB
        refine ⟨mxv A B k', σ1, σ2, G_rn rfl (b_39_0 (d := 1) ⟨0, σ1, r1, fun _ => ⟨mxv A B k', σ1, by rw [← eA, ← eB]; exact r46, rfl, rfl⟩, fun w => absurd rfl w⟩), G_rn rfl (b_84x_0 (d := 1) ⟨fun _ => ⟨fun _ => ⟨v, σ2, m1, fun q => absurd q (by omega), fun _ => ⟨fun _ => ?_, fun q => absurd (u40.symm.trans q) h0⟩⟩, fun q => absurd hn (ifR.1.mp q)⟩, fun q => absurd hb (ifB.1.mp q)⟩), hI2, r3, g2⟩
        rw [u39, u40]
        exact ⟨⟨by omega, by omega⟩, ⟨by omega, by omega⟩, q84 (A := A) hB u40 hk' ⟨rfl, rfl⟩ k' 0 _ _ _ (by omega) rfl rfl rfl (Int.ediv_nonneg (by omega) (by omega))⟩
    · omega
