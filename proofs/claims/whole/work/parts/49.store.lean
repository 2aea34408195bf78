/-! ===== the store of a run: class and model ===== -/
def sumN (f : Nat → Int) : Nat → Int
  | 0 => 0
  | k + 1 => sumN f k + f k
theorem sum_cong {f g : Nat → Int} : ∀ {k : Nat}, (∀ i, i < k → f i = g i) → sumN f k = sumN g k
  | 0, _ => rfl
  | k + 1, h => by simp only [sumN]; rw [sum_cong fun i hi => h i (by omega), h k (by omega)]
theorem sum_upd {f g : Nat → Int} {r : Nat} {v : Int} : ∀ {k : Nat}, r < k → (∀ i, i < k → i ≠ r → g i = f i) → g r = f r + v → sumN g k = sumN f k + v
  | 0, h, _, _ => by omega
  | k + 1, h, h1, h2 => by
    simp only [sumN]
    by_cases q : r = k
    · subst q
      rw [h2, sum_cong (g := f) fun i hi => h1 i (by omega) (by omega)]; omega
    · rw [sum_upd (k := k) (by omega) (fun i hi hr => h1 i (by omega) hr) h2, h1 k (by omega) (fun e => q e.symm)]; omega
theorem sum_nn {f : Nat → Int} : ∀ {k : Nat}, (∀ i, i < k → 0 ≤ f i) → 0 ≤ sumN f k
  | 0, _ => Int.le_refl _
  | k + 1, h => by have := sum_nn (k := k) fun i hi => h i (by omega); have := h k (by omega); simp only [sumN]; omega
theorem sum_le {f g : Nat → Int} : ∀ {k : Nat}, (∀ i, i < k → f i ≤ g i) → sumN f k ≤ sumN g k
  | 0, _ => Int.le_refl _
  | k + 1, h => by have := sum_le (k := k) fun i hi => h i (by omega); have := h k (by omega); simp only [sumN]; omega
theorem sum_two {f : Nat → Int} : ∀ {k : Nat}, sumN (fun i => 2 * f i) k = 2 * sumN f k
  | 0 => rfl
  | k + 1 => by simp only [sumN]; rw [sum_two (k := k)]; omega
theorem sum_one {f : Nat → Int} : ∀ {k r : Nat}, r < k → (∀ i, i < k → 0 ≤ f i) → f r ≤ sumN f k
  | 0, r, h, _ => by omega
  | k + 1, r, h, hn => by
    simp only [sumN]
    by_cases q : r = k
    · subst q; have := sum_nn (k := r) fun i hi => hn i (by omega); omega
    · have := sum_one (k := k) (r := r) (by omega) fun i hi => hn i (by omega); have := hn k (by omega); omega
def bxs (σ : SS) : Nat → Int := fun r => σ 59 0 r
def wds (σ : SS) : Nat → Int := fun r => σ 59 0 r * σ 60 0 r
/-- what the class's store is, o regions being open, at most B opened -/
def StI (σ : SS) (o : Nat) (B : Int) : Prop := σ 32 0 3 = o ∧ (0 ≤ σ 32 0 6 ∧ σ 32 0 6 ≤ 300) ∧ (∀ i : Int, 0 ≤ i → i < σ 32 0 6 → 0 ≤ σ 58 0 i ∧ σ 58 0 i ≤ 999) ∧ (∀ r : Nat, r < o → 0 ≤ σ 59 0 r ∧ (σ 60 0 r = 1 ∨ σ 60 0 r = 2)) ∧
  σ 32 0 4 = sumN (bxs σ) o ∧ σ 32 0 5 = sumN (wds σ) o ∧ σ 32 0 4 ≤ σ 32 0 6 ∧ (0 ≤ σ 32 0 7 ∧ σ 32 0 7 ≤ 300) ∧ (0 ≤ σ 32 0 8 ∧ σ 32 0 8 ≤ 546) ∧ (0 ≤ σ 32 0 9 ∧ σ 32 0 9 ≤ B) ∧ (0 ≤ σ 32 0 10 ∧ σ 32 0 10 ≤ σ 32 0 6) ∧ (0 ≤ σ 32 0 11 ∧ σ 32 0 11 ≤ 600) ∧ (σ 32 0 6 ≤ σ 32 0 12 ∧ σ 32 0 12 ≤ 2 * σ 32 0 6) ∧ (1 ≤ σ 32 0 6 → 1 ≤ σ 32 0 11)
theorem StI.rng {σ : SS} {o : Nat} {B : Int} (h : StI σ o B) : (0 ≤ σ 32 0 4 ∧ σ 32 0 4 ≤ 300) ∧ (0 ≤ σ 32 0 5 ∧ σ 32 0 5 ≤ 600) ∧ (∀ r : Nat, r < o → σ 59 0 r ≤ 300) := by
  obtain ⟨h1, h2, h3, h4, h5, h6, h7, -⟩ := h
  have a : 0 ≤ sumN (bxs σ) o := sum_nn fun i hi => (h4 i hi).1
  have b : 0 ≤ sumN (wds σ) o := sum_nn fun i hi => by
    obtain ⟨x, y⟩ := h4 i hi
    show 0 ≤ σ 59 0 i * σ 60 0 i
    rcases y with y | y <;> rw [y] <;> omega
  have c : sumN (wds σ) o ≤ 2 * sumN (bxs σ) o := by
    rw [← sum_two]
    refine sum_le fun i hi => ?_
    obtain ⟨x, y⟩ := h4 i hi
    show σ 59 0 i * σ 60 0 i ≤ 2 * σ 59 0 i
    rcases y with y | y <;> rw [y] <;> omega
  refine ⟨by omega, by omega, fun r hr => ?_⟩
  have : bxs σ r ≤ sumN (bxs σ) o := sum_one hr fun i hi => (h4 i hi).1
  have : bxs σ r = σ 59 0 r := rfl
  omega
/-- what changes in the class's store -/
def Csto : Nat → Int → Int → Prop := fun t _ j => t = 58 ∨ t = 59 ∨ t = 60 ∨ (t = 32 ∧ 3 ≤ j ∧ j ≤ 12)
theorem StI.keep {C : Nat → Int → Int → Prop} {σ σ' : SS} {o : Nat} {B : Int} (h : StI σ o B) (hF : Fm C σ σ') (hc : ∀ t i j, C t i j → t ≠ 32 ∧ (t < 58 ∨ 60 < t)) : StI σ' o B := by
  have e : ∀ j, σ' 32 0 j = σ 32 0 j := fun j => hF _ _ _ fun q => (hc _ _ _ q).1 rfl
  have e8 : ∀ j, σ' 58 0 j = σ 58 0 j := fun j => hF _ _ _ fun q => by have := (hc _ _ _ q).2; omega
  have e9 : ∀ j, σ' 59 0 j = σ 59 0 j := fun j => hF _ _ _ fun q => by have := (hc _ _ _ q).2; omega
  have e0 : ∀ j, σ' 60 0 j = σ 60 0 j := fun j => hF _ _ _ fun q => by have := (hc _ _ _ q).2; omega
  have eb : bxs σ' = bxs σ := funext fun r => e9 r
  have ew : wds σ' = wds σ := funext fun r => by show σ' 59 0 r * σ' 60 0 r = _; rw [e9, e0]; rfl
  unfold StI
  simp only [e, e8, e9, e0, eb, ew]
  exact h
def opR (σ : SS) : SS := up (up (up (up (up σ 59 0 (σ 32 0 3) 0) 60 0 (σ 32 0 3) 1) 32 0 3 (σ 32 0 3 + 1)) 32 0 9 (σ 32 0 9 + 1)) 32 0 8 (max (σ 32 0 8) (σ 32 0 3 + 1))
def clR (σ : SS) : SS := up (up (up σ 32 0 3 (σ 32 0 3 - 1)) 32 0 4 (σ 32 0 4 - σ 59 0 (σ 32 0 3 - 1))) 32 0 5 (σ 32 0 5 - σ 59 0 (σ 32 0 3 - 1) * σ 60 0 (σ 32 0 3 - 1))
/-- model's store, beside the class's -/
def SR (σ τ : SS) : Prop := τ 62 0 28 = σ 32 0 3 ∧ (∀ r : Int, 0 ≤ r → r < σ 32 0 3 → τ 87 0 r = σ 59 0 r ∧ τ 88 0 r = σ 60 0 r - 1) ∧ (∀ i : Int, 0 ≤ i → i < σ 32 0 6 → τ 86 0 (i + 1) = σ 58 0 i) ∧ τ 62 0 31 = σ 32 0 6 ∧ τ 62 0 32 = σ 32 0 4 ∧ τ 62 0 33 = σ 32 0 7 ∧ τ 62 0 34 = σ 32 0 8 ∧ τ 62 0 35 = σ 32 0 9 ∧ τ 62 0 36 = σ 32 0 10 ∧ τ 62 0 38 = σ 32 0 5 ∧ τ 62 0 39 = σ 32 0 11 ∧ τ 62 0 40 = σ 32 0 12
def Cstm : Nat → Int → Int → Prop := fun t _ j => t = 86 ∨ t = 87 ∨ t = 88 ∨ (t = 62 ∧ (j = 28 ∨ (31 ≤ j ∧ j ≤ 36) ∨ (38 ≤ j ∧ j ≤ 40)))
theorem SR.keep {C : Nat → Int → Int → Prop} {σ τ τ' : SS} (h : SR σ τ) (hF : Fm C τ τ') (hc : ∀ t i j, C t i j → ¬ Cstm t i j) : SR σ τ' := by
  have e : ∀ j, (j = 28 ∨ (31 ≤ j ∧ j ≤ 36) ∨ (38 ≤ j ∧ j ≤ 40)) → τ' 62 0 j = τ 62 0 j := fun j hj => hF _ _ _ fun q => hc _ _ _ q (Or.inr (Or.inr (Or.inr ⟨rfl, hj⟩)))
  have e6 : ∀ j, τ' 86 0 j = τ 86 0 j := fun j => hF _ _ _ fun q => hc _ _ _ q (Or.inl rfl)
  have e7 : ∀ j, τ' 87 0 j = τ 87 0 j := fun j => hF _ _ _ fun q => hc _ _ _ q (Or.inr (Or.inl rfl))
  have e8 : ∀ j, τ' 88 0 j = τ 88 0 j := fun j => hF _ _ _ fun q => hc _ _ _ q (Or.inr (Or.inr (Or.inl rfl)))
  obtain ⟨a1, a2, a3, a4, a5, a6, a7, a8, a9, a10, a11, a12⟩ := h
  refine ⟨by rw [e 28 (by omega)]; exact a1, fun r r1 r2 => by rw [e7, e8]; exact a2 r r1 r2, fun i i1 i2 => by rw [e6]; exact a3 i i1 i2, ?_, ?_, ?_, ?_, ?_, ?_, ?_, ?_, ?_⟩
  · rw [e 31 (by omega)]; exact a4
  · rw [e 32 (by omega)]; exact a5
  · rw [e 33 (by omega)]; exact a6
  · rw [e 34 (by omega)]; exact a7
  · rw [e 35 (by omega)]; exact a8
  · rw [e 36 (by omega)]; exact a9
  · rw [e 38 (by omega)]; exact a10
  · rw [e 39 (by omega)]; exact a11
  · rw [e 40 (by omega)]; exact a12
theorem SR.keepC {C : Nat → Int → Int → Prop} {σ σ' τ : SS} (h : SR σ τ) (hF : Fm C σ σ') (hc : ∀ t i j, C t i j → ¬ Csto t i j) : SR σ' τ := by
  have e : ∀ j, (3 ≤ j ∧ j ≤ 12) → σ' 32 0 j = σ 32 0 j := fun j hj => hF _ _ _ fun q => hc _ _ _ q (Or.inr (Or.inr (Or.inr ⟨rfl, hj⟩)))
  have e6 : ∀ j, σ' 58 0 j = σ 58 0 j := fun j => hF _ _ _ fun q => hc _ _ _ q (Or.inl rfl)
  have e7 : ∀ j, σ' 59 0 j = σ 59 0 j := fun j => hF _ _ _ fun q => hc _ _ _ q (Or.inr (Or.inl rfl))
  have e8 : ∀ j, σ' 60 0 j = σ 60 0 j := fun j => hF _ _ _ fun q => hc _ _ _ q (Or.inr (Or.inr (Or.inl rfl)))
  unfold SR
  rw [e 3 (by omega), e 4 (by omega), e 5 (by omega), e 6 (by omega), e 7 (by omega), e 8 (by omega), e 9 (by omega), e 10 (by omega), e 11 (by omega), e 12 (by omega)]
  simp only [e6, e7, e8]
  exact h
section STORE
variable {d : Nat} {σ τ : SS} {o : Nat} {B : Int}
theorem opR_Fm : Fm (fun t _ j => t = 59 ∨ t = 60 ∨ (t = 32 ∧ (j = 3 ∨ j = 8 ∨ j = 9))) σ (opR σ) := by
  unfold opR
  refine ((((Fm.rf σ).up ?_).up ?_).up ?_).up ?_ |>.up ?_ <;> simp
theorem clR_Fm : Fm (fun t _ j => t = 32 ∧ (j = 3 ∨ j = 4 ∨ j = 5)) σ (clR σ) := by
  unfold clR
  refine (((Fm.rf σ).up ?_).up ?_).up ?_ <;> simp
theorem c_open (h : StI σ o B) (ho : o < 546) (hB : B ≤ 200000) : Rn (d + 2) 128 [vr 32 0] σ (vi (o : Int)) (opR σ) ∧ StI (opR σ) (o + 1) (B + 1) := by
  obtain ⟨h1, h2, h3, h4, h5, h6, h7, h8, h9, h10, h11, h12, h13, h14⟩ := h
  constructor
  · refine G_rn rfl (b_128_0 fun σ1 e1 σ2 e2 => ?_)
    rw [us_in ⟨by omega, by omega⟩] at e1
    rw [us_in ⟨by omega, by omega⟩] at e2
    have a3 : σ2 32 0 3 = σ 32 0 3 := by rw [e2, up_ne (by omega), e1, up_ne (by omega)]
    rw [a3]
    refine ⟨irI (by omega) (by omega), fun σ3 e3 => ?_⟩
    have a9 : σ3 32 0 9 = σ 32 0 9 := by rw [e3, up_ne (by omega), e2, up_ne (by omega), e1, up_ne (by omega)]
    rw [a9]
    refine ⟨irI (by omega) (by omega), fun σ4 e4 σ5 e5 => ⟨by rw [h1], ?_⟩⟩
    have a8 : σ4 32 0 8 = σ 32 0 8 := by rw [e4, up_ne (by omega), e3, up_ne (by omega), e2, up_ne (by omega), e1, up_ne (by omega)]
    have a33 : σ4 32 0 3 = σ 32 0 3 + 1 := by rw [e4, up_ne (by omega), e3, up_eq ⟨rfl, rfl, rfl⟩]
    rw [e5, a8, a33, e4, e3, e2, e1]
    rfl
  · have f := @opR_Fm σ
    have e59 : ∀ r : Nat, r < o → opR σ 59 0 r = σ 59 0 r ∧ opR σ 60 0 r = σ 60 0 r := fun r hr => by
      unfold opR
      constructor
      · rw [up_ne (by omega), up_ne (by omega), up_ne (by omega), up_ne (by omega), up_ne (by omega)]
      · rw [up_ne (by omega), up_ne (by omega), up_ne (by omega), up_ne (by omega), up_ne (by omega)]
    have e59o : opR σ 59 0 o = 0 ∧ opR σ 60 0 o = 1 := by
      unfold opR
      constructor
      · rw [up_ne (by omega), up_ne (by omega), up_ne (by omega), up_ne (by omega), up_eq ⟨rfl, rfl, by omega⟩]
      · rw [up_ne (by omega), up_ne (by omega), up_ne (by omega), up_eq ⟨rfl, rfl, by omega⟩]
    have x3 : opR σ 32 0 3 = σ 32 0 3 + 1 := by unfold opR; rw [up_ne (by omega), up_ne (by omega), up_eq ⟨rfl, rfl, rfl⟩]
    have x9 : opR σ 32 0 9 = σ 32 0 9 + 1 := by unfold opR; rw [up_ne (by omega), up_eq ⟨rfl, rfl, rfl⟩]
    have x8 : opR σ 32 0 8 = max (σ 32 0 8) (σ 32 0 3 + 1) := by unfold opR; rw [up_eq ⟨rfl, rfl, rfl⟩]
    have x : ∀ j, j ≠ 3 → j ≠ 8 → j ≠ 9 → opR σ 32 0 j = σ 32 0 j := fun j q1 q2 q3 => f _ _ _ (by omega)
    have x58 : ∀ j, opR σ 58 0 j = σ 58 0 j := fun j => f _ _ _ (by omega)
    have sb : sumN (bxs (opR σ)) (o + 1) = sumN (bxs σ) o := by
      simp only [sumN]
      rw [sum_cong (f := bxs (opR σ)) (g := bxs σ) fun i hi => (e59 i hi).1, show bxs (opR σ) o = 0 from e59o.1]; omega
    have sw : sumN (wds (opR σ)) (o + 1) = sumN (wds σ) o := by
      simp only [sumN]
      rw [sum_cong (f := wds (opR σ)) (g := wds σ) fun i hi => by show opR σ 59 0 i * opR σ 60 0 i = _; rw [(e59 i hi).1, (e59 i hi).2]; rfl, show wds (opR σ) o = opR σ 59 0 o * opR σ 60 0 o from rfl, e59o.1]; omega
    unfold StI
    rw [x 6 (by omega) (by omega) (by omega), x 4 (by omega) (by omega) (by omega), x 5 (by omega) (by omega) (by omega), x 7 (by omega) (by omega) (by omega), x 10 (by omega) (by omega) (by omega), x 11 (by omega) (by omega) (by omega), x 12 (by omega) (by omega) (by omega), x3, x9, x8, sb, sw]
    refine ⟨by omega, h2, fun i a b => by rw [x58]; exact h3 i a b, fun r hr => ?_, h5, h6, h7, h8, by omega, by omega, h11, h12, h13, h14⟩
    rcases Nat.eq_or_lt_of_le (Nat.le_of_lt_succ hr) with w | w
    · subst w; rw [e59o.1, e59o.2]; omega
    · rw [(e59 r w).1, (e59 r w).2]; exact h4 r w
theorem m_open (h : StI σ o B) (hR : SR σ τ) (ho : o < 546) (hB : B ≤ 200000) : ∃ τ', Rn (d + 1) 72 [vr 62 0] τ (vi (o : Int)) τ' ∧ SR (opR σ) τ' ∧ Fm Cstm τ τ' := by
  obtain ⟨h1, h2, h3, h4, h5, h6, h7, h8, h9, h10, h11, h12, h13, h14⟩ := h
  obtain ⟨a1, a2, a3, a4, a5, a6, a7, a8, a9, a10, a11, a12⟩ := hR
  have x3 : opR σ 32 0 3 = σ 32 0 3 + 1 := by unfold opR; rw [up_ne (by omega), up_ne (by omega), up_eq ⟨rfl, rfl, rfl⟩]
  have x9 : opR σ 32 0 9 = σ 32 0 9 + 1 := by unfold opR; rw [up_ne (by omega), up_eq ⟨rfl, rfl, rfl⟩]
  have x8 : opR σ 32 0 8 = max (σ 32 0 8) (σ 32 0 3 + 1) := by unfold opR; rw [up_eq ⟨rfl, rfl, rfl⟩]
  have x : ∀ j, j ≠ 3 → j ≠ 8 → j ≠ 9 → opR σ 32 0 j = σ 32 0 j := fun j q1 q2 q3 => opR_Fm _ _ _ (by omega)
  have x58 : ∀ j, opR σ 58 0 j = σ 58 0 j := fun j => opR_Fm _ _ _ (by omega)
  let τ5 := up (up (up (up (up τ 87 0 o 0) 88 0 o 0) 62 0 28 (o + 1)) 62 0 35 (σ 32 0 9 + 1)) 62 0 34 (max (σ 32 0 8) (o + 1))
  have fin : SR (opR σ) τ5 := by
    refine ⟨?_, fun r r1 r2 => ?_, fun i i1 i2 => ?_, ?_, ?_, ?_, ?_, ?_, ?_, ?_, ?_, ?_⟩
    · rw [x3, h1]; show τ5 62 0 28 = _; simp only [τ5]; rw [up_ne (by omega), up_ne (by omega), up_eq ⟨rfl, rfl, rfl⟩]
    · rw [x3] at r2
      simp only [τ5]
      by_cases q : r = o
      · subst q
        have e1 : opR σ 59 0 o = 0 := by unfold opR; rw [up_ne (by omega), up_ne (by omega), up_ne (by omega), up_ne (by omega), up_eq ⟨rfl, rfl, by omega⟩]
        have e2 : opR σ 60 0 o = 1 := by unfold opR; rw [up_ne (by omega), up_ne (by omega), up_ne (by omega), up_eq ⟨rfl, rfl, by omega⟩]
        rw [e1, e2]
        constructor
        · rw [up_ne (by omega), up_ne (by omega), up_ne (by omega), up_ne (by omega), up_eq ⟨rfl, rfl, rfl⟩]
        · rw [up_ne (by omega), up_ne (by omega), up_ne (by omega), up_eq ⟨rfl, rfl, rfl⟩]; rfl
      · have e1 : opR σ 59 0 r = σ 59 0 r := by unfold opR; rw [up_ne (by omega), up_ne (by omega), up_ne (by omega), up_ne (by omega), up_ne (by omega)]
        have e2 : opR σ 60 0 r = σ 60 0 r := by unfold opR; rw [up_ne (by omega), up_ne (by omega), up_ne (by omega), up_ne (by omega), up_ne (by omega)]
        rw [e1, e2, up_ne (by omega), up_ne (by omega), up_ne (by omega), up_ne (by omega), up_ne (by omega), up_ne (by omega), up_ne (by omega), up_ne (by omega), up_ne (by omega), up_ne (by omega)]
        exact a2 r r1 (by omega)
    · rw [x 6 (by omega) (by omega) (by omega)] at i2
      rw [x58]
      simp only [τ5]
      rw [up_ne (by omega), up_ne (by omega), up_ne (by omega), up_ne (by omega), up_ne (by omega)]
      exact a3 i i1 i2
    · rw [x 6 (by omega) (by omega) (by omega)]; simp only [τ5]; rw [up_ne (by omega), up_ne (by omega), up_ne (by omega), up_ne (by omega), up_ne (by omega)]; exact a4
    · rw [x 4 (by omega) (by omega) (by omega)]; simp only [τ5]; rw [up_ne (by omega), up_ne (by omega), up_ne (by omega), up_ne (by omega), up_ne (by omega)]; exact a5
    · rw [x 7 (by omega) (by omega) (by omega)]; simp only [τ5]; rw [up_ne (by omega), up_ne (by omega), up_ne (by omega), up_ne (by omega), up_ne (by omega)]; exact a6
    · rw [x8, h1]; simp only [τ5]; rw [up_eq ⟨rfl, rfl, rfl⟩]
    · rw [x9]; simp only [τ5]; rw [up_ne (by omega), up_eq ⟨rfl, rfl, rfl⟩]
    · rw [x 10 (by omega) (by omega) (by omega)]; simp only [τ5]; rw [up_ne (by omega), up_ne (by omega), up_ne (by omega), up_ne (by omega), up_ne (by omega)]; exact a9
    · rw [x 5 (by omega) (by omega) (by omega)]; simp only [τ5]; rw [up_ne (by omega), up_ne (by omega), up_ne (by omega), up_ne (by omega), up_ne (by omega)]; exact a10
    · rw [x 11 (by omega) (by omega) (by omega)]; simp only [τ5]; rw [up_ne (by omega), up_ne (by omega), up_ne (by omega), up_ne (by omega), up_ne (by omega)]; exact a11
    · rw [x 12 (by omega) (by omega) (by omega)]; simp only [τ5]; rw [up_ne (by omega), up_ne (by omega), up_ne (by omega), up_ne (by omega), up_ne (by omega)]; exact a12
  refine ⟨τ5, G_rn rfl (b_72_0 ⟨by omega, fun τ1 e1 => ?_⟩), fin, ?_⟩
  · rw [a1, h1] at e1
    have b1 : τ1 62 0 28 = o := by rw [e1, up_ne (by omega)]; omega
    rw [b1]
    refine ⟨⟨by omega, Or.inl rfl⟩, fun τ2 e2 => ?_⟩
    have b2 : τ2 62 0 28 = o := by rw [e2, up_ne (by omega)]; exact b1
    rw [b2]
    refine ⟨irI (by omega) (by omega), fun τ3 e3 => ?_⟩
    have b3 : τ3 62 0 35 = σ 32 0 9 := by rw [e3, up_ne (by omega), e2, up_ne (by omega), e1, up_ne (by omega)]; exact a8
    rw [b3]
    refine ⟨irI (by omega) (by omega), fun τ4 e4 => ?_⟩
    have b4 : τ4 62 0 28 = o + 1 := by rw [e4, up_ne (by omega), e3, up_eq ⟨rfl, rfl, rfl⟩]
    have b5 : τ4 62 0 34 = σ 32 0 8 := by rw [e4, up_ne (by omega), e3, up_ne (by omega), e2, up_ne (by omega), e1, up_ne (by omega)]; exact a7
    rw [b4, b5]
    refine ⟨fun q τ6 e6 => ?_, fun q τ6 e6 => ?_⟩
    · have b6 : τ6 62 0 28 = o + 1 := by rw [e6, up_ne (by omega)]; exact b4
      rw [b6]
      refine ⟨irI (by omega) (by omega), by rw [show (o : Int) + 1 - 1 = o by omega], ?_⟩
      rw [e6, e4, e3, e2, e1]; simp only [τ5]; rw [show max (σ 32 0 8) ((o : Int) + 1) = σ 32 0 8 by omega]
    · have b6 : τ6 62 0 28 = o + 1 := by rw [e6, up_ne (by omega)]; exact b4
      rw [b6]
      refine ⟨irI (by omega) (by omega), by rw [show (o : Int) + 1 - 1 = o by omega], ?_⟩
      rw [e6, e4, e3, e2, e1]; simp only [τ5]; rw [show max (σ 32 0 8) ((o : Int) + 1) = (o : Int) + 1 by omega]
  · simp only [τ5]
    refine (((((Fm.rf τ).up ?_).up ?_).up ?_).up ?_).up ?_ <;> unfold Cstm <;> omega
theorem c_close (h : StI σ (o + 1) B) (ho : o < 546) : Rn (d + 2) 129 [vr 32 0] σ vu (clR σ) ∧ StI (clR σ) o B := by
  have hr := h.rng
  obtain ⟨h1, h2, h3, h4, h5, h6, h7, h8, h9, h10, h11, h12, h13, h14⟩ := h
  have e3 : σ 32 0 3 - 1 = (o : Int) := by omega
  have ho1 := h4 o (by omega)
  have ho2 := hr.2.2 o (by omega)
  have hp : 0 ≤ σ 59 0 o * σ 60 0 o ∧ σ 59 0 o * σ 60 0 o ≤ 600 := by rcases ho1.2 with y | y <;> rw [y] <;> omega
  constructor
  · refine G_rn rfl (b_129_0 ⟨fun q => absurd q (by omega), fun _ => ⟨irI (by omega) (by omega), fun σ1 e1 => ?_⟩⟩)
    have a3 : σ1 32 0 3 = o := by rw [e1, up_eq ⟨rfl, rfl, rfl⟩]; exact e3
    have a4 : σ1 32 0 4 = σ 32 0 4 := by rw [e1, up_ne (by omega)]
    have a59 : rg 546 (σ1 59 0) (o : Int) = σ 59 0 o := by rw [rgN (by omega), e1, up_ne (by omega)]
    rw [a3, a4, a59]
    refine ⟨irI (by omega) (by omega), fun σ2 e2 => ?_⟩
    have b3 : σ2 32 0 3 = o := by rw [e2, up_ne (by omega)]; exact a3
    have b5 : σ2 32 0 5 = σ 32 0 5 := by rw [e2, up_ne (by omega), e1, up_ne (by omega)]
    have b60 : rg 546 (σ2 60 0) (o : Int) = σ 60 0 o := by rw [rgN (by omega), e2, up_ne (by omega), e1, up_ne (by omega)]
    rw [b3, b5, b60]
    refine ⟨irI (by omega) (by omega), irI (by omega) (by omega), fun σ3 e => ⟨rfl, ?_⟩⟩
    rw [e, e2, e1]
    unfold clR
    rw [e3]
  · have x3 : clR σ 32 0 3 = o := by unfold clR; rw [up_ne (by omega), up_ne (by omega), up_eq ⟨rfl, rfl, rfl⟩]; exact e3
    have x4 : clR σ 32 0 4 = σ 32 0 4 - σ 59 0 o := by unfold clR; rw [up_ne (by omega), up_eq ⟨rfl, rfl, rfl⟩, e3]
    have x5 : clR σ 32 0 5 = σ 32 0 5 - σ 59 0 o * σ 60 0 o := by unfold clR; rw [up_eq ⟨rfl, rfl, rfl⟩, e3]
    have x : ∀ j, j ≠ 3 → j ≠ 4 → j ≠ 5 → clR σ 32 0 j = σ 32 0 j := fun j q1 q2 q3 => clR_Fm _ _ _ (by omega)
    have y8 : ∀ j, clR σ 58 0 j = σ 58 0 j := fun j => clR_Fm _ _ _ (by omega)
    have y9 : ∀ j, clR σ 59 0 j = σ 59 0 j := fun j => clR_Fm _ _ _ (by omega)
    have y0 : ∀ j, clR σ 60 0 j = σ 60 0 j := fun j => clR_Fm _ _ _ (by omega)
    have eb : bxs (clR σ) = bxs σ := funext fun r => y9 r
    have ew : wds (clR σ) = wds σ := funext fun r => by show clR σ 59 0 r * clR σ 60 0 r = _; rw [y9, y0]; rfl
    have sb : sumN (bxs σ) (o + 1) = sumN (bxs σ) o + σ 59 0 o := rfl
    have sw : sumN (wds σ) (o + 1) = sumN (wds σ) o + σ 59 0 o * σ 60 0 o := rfl
    unfold StI
    rw [x 6 (by omega) (by omega) (by omega), x 7 (by omega) (by omega) (by omega), x 8 (by omega) (by omega) (by omega), x 9 (by omega) (by omega) (by omega), x 10 (by omega) (by omega) (by omega), x 11 (by omega) (by omega) (by omega), x 12 (by omega) (by omega) (by omega), x3, x4, x5, eb, ew]
    refine ⟨rfl, h2, fun i a b => by rw [y8]; exact h3 i a b, fun r hr => by rw [y9, y0]; exact h4 r (by omega), by omega, by omega, by omega, h8, h9, h10, h11, h12, h13, h14⟩
theorem m_close (h : StI σ (o + 1) B) (hR : SR σ τ) (ho : o < 546) : ∃ τ', Rn (d + 1) 73 [vr 62 0] τ vu τ' ∧ SR (clR σ) τ' ∧ Fm Cstm τ τ' := by
  have hr := h.rng
  obtain ⟨h1, h2, h3, h4, h5, h6, h7, h8, h9, h10, h11, h12, h13, h14⟩ := h
  obtain ⟨a1, a2, a3, a4, a5, a6, a7, a8, a9, a10, a11, a12⟩ := hR
  have e3 : σ 32 0 3 - 1 = (o : Int) := by omega
  have ho1 := h4 o (by omega)
  have ho2 := hr.2.2 o (by omega)
  have hp : 0 ≤ σ 59 0 o * σ 60 0 o ∧ σ 59 0 o * σ 60 0 o ≤ 600 := by rcases ho1.2 with y | y <;> rw [y] <;> omega
  have x3 : clR σ 32 0 3 = o := by unfold clR; rw [up_ne (by omega), up_ne (by omega), up_eq ⟨rfl, rfl, rfl⟩]; exact e3
  have x4 : clR σ 32 0 4 = σ 32 0 4 - σ 59 0 o := by unfold clR; rw [up_ne (by omega), up_eq ⟨rfl, rfl, rfl⟩, e3]
  have x5 : clR σ 32 0 5 = σ 32 0 5 - σ 59 0 o * σ 60 0 o := by unfold clR; rw [up_eq ⟨rfl, rfl, rfl⟩, e3]
  have x : ∀ j, j ≠ 3 → j ≠ 4 → j ≠ 5 → clR σ 32 0 j = σ 32 0 j := fun j q1 q2 q3 => clR_Fm _ _ _ (by omega)
  have y8 : ∀ j, clR σ 58 0 j = σ 58 0 j := fun j => clR_Fm _ _ _ (by omega)
  have y9 : ∀ j, clR σ 59 0 j = σ 59 0 j := fun j => clR_Fm _ _ _ (by omega)
  have y0 : ∀ j, clR σ 60 0 j = σ 60 0 j := fun j => clR_Fm _ _ _ (by omega)
  obtain ⟨z1, z2⟩ := a2 o (by omega) (by omega)
  let τ3 := up (up (up τ 62 0 28 o) 62 0 32 (σ 32 0 4 - σ 59 0 o)) 62 0 38 (σ 32 0 5 - σ 59 0 o * σ 60 0 o)
  have fin : SR (clR σ) τ3 := by
    have m : ∀ t j, (t ≠ 62 ∨ (j ≠ 28 ∧ j ≠ 32 ∧ j ≠ 38)) → τ3 t 0 j = τ t 0 j := fun t j q => by simp only [τ3]; rw [up_ne (by omega), up_ne (by omega), up_ne (by omega)]
    refine ⟨?_, fun r r1 r2 => ?_, fun i i1 i2 => ?_, ?_, ?_, ?_, ?_, ?_, ?_, ?_, ?_, ?_⟩
    · rw [x3]; simp only [τ3]; rw [up_ne (by omega), up_ne (by omega), up_eq ⟨rfl, rfl, rfl⟩]
    · rw [x3] at r2; rw [y9, y0, m 87 _ (by omega), m 88 _ (by omega)]; exact a2 r r1 (by omega)
    · rw [x 6 (by omega) (by omega) (by omega)] at i2; rw [y8, m 86 _ (by omega)]; exact a3 i i1 i2
    · rw [x 6 (by omega) (by omega) (by omega), m 62 _ (by omega)]; exact a4
    · rw [x4]; simp only [τ3]; rw [up_ne (by omega), up_eq ⟨rfl, rfl, rfl⟩]
    · rw [x 7 (by omega) (by omega) (by omega), m 62 _ (by omega)]; exact a6
    · rw [x 8 (by omega) (by omega) (by omega), m 62 _ (by omega)]; exact a7
    · rw [x 9 (by omega) (by omega) (by omega), m 62 _ (by omega)]; exact a8
    · rw [x 10 (by omega) (by omega) (by omega), m 62 _ (by omega)]; exact a9
    · rw [x5]; simp only [τ3]; rw [up_eq ⟨rfl, rfl, rfl⟩]
    · rw [x 11 (by omega) (by omega) (by omega), m 62 _ (by omega)]; exact a11
    · rw [x 12 (by omega) (by omega) (by omega), m 62 _ (by omega)]; exact a12
  refine ⟨τ3, G_rn rfl (b_73_0 ⟨irI (by omega) (by omega), fun τ1 e1 => ?_⟩), fin, ?_⟩
  · rw [a1, e3] at e1
    have b1 : τ1 62 0 28 = o := by rw [e1, up_eq ⟨rfl, rfl, rfl⟩]
    have b2 : τ1 62 0 32 = σ 32 0 4 := by rw [e1, up_ne (by omega)]; exact a5
    have b3 : τ1 87 0 o = σ 59 0 o := by rw [e1, up_ne (by omega)]; exact z1
    rw [b1, b2, b3]
    refine ⟨by omega, irI (by omega) (by omega), fun τ2 e2 => ?_⟩
    have c1 : τ2 62 0 28 = o := by rw [e2, up_ne (by omega)]; exact b1
    have c2 : τ2 62 0 38 = σ 32 0 5 := by rw [e2, up_ne (by omega), e1, up_ne (by omega)]; exact a10
    have c3 : τ2 87 0 o = σ 59 0 o := by rw [e2, up_ne (by omega)]; exact b3
    have c4 : τ2 88 0 o = σ 60 0 o - 1 := by rw [e2, up_ne (by omega), e1, up_ne (by omega)]; exact z2
    rw [c1, c2, c3, c4]
    refine ⟨by omega, fun q => ⟨by omega, irI (by omega) (by omega), fun τ4 e4 => ⟨rfl, ?_⟩⟩, fun q => ⟨by omega, irI (by omega) (by omega), irI (by omega) (by omega), fun τ4 e4 => ⟨rfl, ?_⟩⟩⟩
    · rw [e4, e2, e1]; simp only [τ3]
      rw [show σ 60 0 o = 1 by omega, Int.mul_one]
    · rw [e4, e2, e1]; simp only [τ3]
      rw [show σ 60 0 o = 2 by omega, Int.mul_comm]
  · simp only [τ3]
    refine (((Fm.rf τ).up ?_).up ?_).up ?_ <;> unfold Cstm <;> omega
end STORE
