/-! ===== heaps: what is kept, what is read ===== -/
theorem up_eq {σ : SS} {t t' : Nat} {i i' j j' v : Int} (h : t' = t ∧ i' = i ∧ j' = j) : up σ t i j v t' i' j' = v := if_pos h
theorem up_ne {σ : SS} {t t' : Nat} {i i' j j' v : Int} (h : ¬ (t' = t ∧ i' = i ∧ j' = j)) : up σ t i j v t' i' j' = σ t' i' j' := if_neg h
/-- outside C nothing has changed -/
def Fm (C : Nat → Int → Int → Prop) (σ σ' : SS) : Prop := ∀ t i j, ¬ C t i j → σ' t i j = σ t i j
theorem Fm.rf {C : Nat → Int → Int → Prop} (σ : SS) : Fm C σ σ := fun _ _ _ _ => rfl
theorem Fm.tr {C : Nat → Int → Int → Prop} {σ σ1 σ2 : SS} (h1 : Fm C σ σ1) (h2 : Fm C σ1 σ2) : Fm C σ σ2 := fun t i j h => (h2 t i j h).trans (h1 t i j h)
theorem Fm.mono {C C' : Nat → Int → Int → Prop} {σ σ' : SS} (h : Fm C σ σ') (hc : ∀ t i j, C t i j → C' t i j) : Fm C' σ σ' := fun t i j q => h t i j fun x => q (hc t i j x)
theorem Fm.up {C : Nat → Int → Int → Prop} {σ σ1 : SS} {t : Nat} {i j v : Int} (h : Fm C σ σ1) (hc : C t i j) : Fm C σ (up σ1 t i j v) := fun t' i' j' q => by
  rw [up_ne (fun e => by obtain ⟨rfl, rfl, rfl⟩ := e; exact q hc)]
  exact h t' i' j' q
theorem Fm.us {C : Nat → Int → Int → Prop} {σ σ1 : SS} {t : Nat} {n i j v : Int} (h : Fm C σ σ1) (hc : 0 ≤ j → j < n → C t i j) : Fm C σ (us n σ1 t i j v) := by
  by_cases q : 0 ≤ j ∧ j < n
  · rw [us_in q]; exact h.up (hc q.1 q.2)
  · rw [us_out q]; exact h
/-- the text as the class has it, as the model has it -/
def CTx (T : TP) (σ : SS) : Prop := ∀ b, isB b → σ 6 b 1 = (tN T b : Int) ∧ σ 6 b 2 = tG T b ∧ σ 6 b 3 = tV T b ∧ ∀ p : Int, 0 ≤ p → p < 40 → σ 37 b p = tS T b p
def MTx (T : TP) (σ : SS) : Prop := ∀ b, isB b → σ 65 0 b = (tN T b : Int) ∧ σ 63 0 b = tG T b ∧ σ 64 0 b = tV T b ∧ ∀ p : Int, 0 ≤ p → p < 40 → σ 66 0 (40 * b + p) = tS T b p
theorem MTx.keep {T : TP} {C : Nat → Int → Int → Prop} {σ σ' : SS} (h : MTx T σ) (hF : Fm C σ σ') (hc : ∀ t i j, C t i j → t ≠ 63 ∧ t ≠ 64 ∧ t ≠ 65 ∧ t ≠ 66) : MTx T σ' := by
  intro b hb
  obtain ⟨h1, h2, h3, h4⟩ := h b hb
  refine ⟨?_, ?_, ?_, fun p q1 q2 => ?_⟩
  · rw [hF 65 0 b fun x => (hc _ _ _ x).2.2.1 rfl]; exact h1
  · rw [hF 63 0 b fun x => (hc _ _ _ x).1 rfl]; exact h2
  · rw [hF 64 0 b fun x => (hc _ _ _ x).2.1 rfl]; exact h3
  · rw [hF 66 0 _ fun x => (hc _ _ _ x).2.2.2 rfl]; exact h4 p q1 q2
theorem CTx.keep {T : TP} {C : Nat → Int → Int → Prop} {σ σ' : SS} (h : CTx T σ) (hF : Fm C σ σ') (hc : ∀ t i j, C t i j → t ≠ 6 ∧ t ≠ 37) : CTx T σ' := by
  intro b hb
  obtain ⟨h1, h2, h3, h4⟩ := h b hb
  refine ⟨?_, ?_, ?_, fun p q1 q2 => ?_⟩
  · rw [hF 6 b 1 fun x => (hc _ _ _ x).1 rfl]; exact h1
  · rw [hF 6 b 2 fun x => (hc _ _ _ x).1 rfl]; exact h2
  · rw [hF 6 b 3 fun x => (hc _ _ _ x).1 rfl]; exact h3
  · rw [hF 37 b p fun x => (hc _ _ _ x).2 rfl]; exact h4 p q1 q2
/-- what begins at a place -/
def whA (s : Int → Int) (p : Nat) : Int := if nmA s p = true then -6 else kos (s p)
/-- the name that must come: 1 of a let, 2 of a call, 0 none -/
def muA (s : Int → Int) (p : Nat) : Int := if nmA s p = true then (if s ((p : Int) - 1) = 108 then 1 else 2) else 0
/-- the tree as the model has it -/
def MTp (n : Nat) (s : Int → Int) (b : Int) (σ : SS) (p : Nat) : Prop :=
  σ 68 0 (40 * b + p) = 40 * b + c0A s p ∧ (1 ≤ inn (kos (s p)) → σ 69 0 (40 * b + p) = 40 * b + c1A n s p) ∧ (2 ≤ inn (kos (s p)) → σ 70 0 (40 * b + p) = 40 * b + c2A n s p) ∧ σ 71 0 (40 * b + p) = 40 * b + enA n s p
def MTr (T : TP) (b : Int) (σ : SS) : Prop := ∀ p : Nat, p < tN T b → σ 67 0 (40 * b + p) = whA (tS T b) p ∧ (nmA (tS T b) p = false → MTp (tN T b) (tS T b) b σ p)
/-- what reading body b changes in the model -/
def Crd (b : Int) : Nat → Int → Int → Prop := fun t _ j => (67 ≤ t ∧ t ≤ 71) ∧ 40 * b ≤ j ∧ j < 40 * b + 40
def Crm : Nat → Int → Int → Prop := fun t _ _ => 67 ≤ t ∧ t ≤ 71
theorem MTr.keep {T : TP} {b : Int} {C : Nat → Int → Int → Prop} {σ σ' : SS} (h : MTr T b σ) (hn : tN T b ≤ 40) (hF : Fm C σ σ') (hc : ∀ t i j, C t i j → 67 ≤ t → t ≤ 71 → 40 * b ≤ j → j < 40 * b + 40 → False) : MTr T b σ' := by
  intro p hp
  have e : ∀ t : Nat, 67 ≤ t → t ≤ 71 → σ' t 0 (40 * b + p) = σ t 0 (40 * b + p) := fun t h1 h2 => hF _ _ _ fun x => hc _ _ _ x h1 h2 (by omega) (by omega)
  unfold MTp
  rw [e 67 (by omega) (by omega), e 68 (by omega) (by omega), e 69 (by omega) (by omega), e 70 (by omega) (by omega), e 71 (by omega) (by omega)]
  exact h p hp
