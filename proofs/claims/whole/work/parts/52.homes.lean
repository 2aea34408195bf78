/-! ===== opening and closing homes: class and model ===== -/
def Crun : Nat → Int → Int → Prop := fun t _ _ => t = 1 ∨ t = 32 ∨ (50 ≤ t ∧ t ≤ 60)
def cH (β : SS) (b : Int) (p : Nat) : Nat → Int → Nat
  | 0, _ => 0
  | m + 1, r => (if β 49 b r = p then 1 else 0) + cH β b p m (r + 1)
theorem cH_hc (β : SS) (b : Int) (p : Nat) : ∀ (m k : Nat), cntA (fun i => decide (β 49 b (2 + (i : Int)) = p)) (k + m) = cntA (fun i => decide (β 49 b (2 + (i : Int)) = p)) k + cH β b p m (2 + k)
  | 0, k => rfl
  | m + 1, k => by
    have := cH_hc β b p m (k + 1)
    rw [show k + (m + 1) = k + 1 + m by omega, this]
    simp only [cntA, cH, decide_eq_true_eq]
    rw [show (2 : Int) + ((k + 1 : Nat) : Int) = 2 + (k : Int) + 1 by omega]
    omega
theorem hc_cH {β : SS} {b : Int} {p : Nat} : hcB β b p = cH β b p (β 4 b 8).toNat 2 := by
  have := cH_hc β b p (β 4 b 8).toNat 0
  rw [show (2 : Int) + ((0 : Nat) : Int) = 2 by omega] at this
  unfold hcB
  rw [← Nat.zero_add (β 4 b 8).toNat, this]
  simp [cntA]
def opH (β : SS) (b : Int) (f p : Nat) : Nat → Int → SS → SS
  | 0, _, σ => σ
  | m + 1, r, σ => opH β b f p m (r + 1) (if β 49 b r = p then up (opR σ) 57 0 (42 * (f : Int) + r) (σ 32 0 3) else σ)
def clH (β : SS) (b : Int) (p : Nat) : Nat → Int → SS → SS
  | 0, _, σ => σ
  | m + 1, r, σ => clH β b p m (r + 1) (if β 49 b r = p then clR σ else σ)
def Cop (f : Nat) : Nat → Int → Int → Prop := fun t _ j => (t = 32 ∧ (j = 3 ∨ j = 8 ∨ j = 9)) ∨ t = 59 ∨ t = 60 ∨ (t = 57 ∧ 42 * (f : Int) + 2 ≤ j ∧ j < 42 * (f : Int) + 42)
section HOMES
variable {β : SS} {b : Int} {f p : Nat} {d : Nat}
theorem opH_ok (hf : f ≤ 12) : ∀ (m : Nat) (r : Int) (σ : SS) (o : Nat) (B : Int), StI σ o B → o + cH β b p m r ≤ 546 → B + cH β b p m r ≤ 200000 → 2 ≤ r → r + m ≤ 42 →
    StI (opH β b f p m r σ) (o + cH β b p m r) (B + cH β b p m r) ∧ Fm (Cop f) σ (opH β b f p m r σ) ∧ (∀ r' : Int, r ≤ r' → r' < r + m → β 49 b r' = p → (o : Int) ≤ opH β b f p m r σ 57 0 (42 * (f : Int) + r') ∧ opH β b f p m r σ 57 0 (42 * (f : Int) + r') < (o : Int) + cH β b p m r) ∧
    (∀ r' : Int, r' < r ∨ r + m ≤ r' ∨ β 49 b r' ≠ p → opH β b f p m r σ 57 0 (42 * (f : Int) + r') = σ 57 0 (42 * (f : Int) + r'))
  | 0, r, σ, o, B, h, _, _, _, _ => ⟨by simpa [cH, opH] using h, Fm.rf σ, fun r' a c => by omega, fun r' _ => rfl⟩
  | m + 1, r, σ, o, B, h, ho, hB, hr, hrm => by
    simp only [cH] at ho hB
    by_cases q : β 49 b r = p
    · rw [if_pos q] at ho hB
      obtain ⟨-, h1⟩ := c_open (d := 0) h (by omega) (by omega)
      have hF : Fm (Cop f) σ (up (opR σ) 57 0 (42 * (f : Int) + r) (σ 32 0 3)) := (opR_Fm.mono fun t i j w => by unfold Cop; omega).up (by unfold Cop; omega)
      have h2 : StI (up (opR σ) 57 0 (42 * (f : Int) + r) (σ 32 0 3)) (o + 1) (B + 1) := h1.keep (C := fun t _ _ => t = 57) ((Fm.rf _).up rfl) (fun t i j w => by omega)
      obtain ⟨i1, i2, i3, i4⟩ := opH_ok hf m (r + 1) _ (o + 1) (B + 1) h2 (by omega) (by omega) (by omega) (by omega)
      have e : opH β b f p (m + 1) r σ = opH β b f p m (r + 1) (up (opR σ) 57 0 (42 * (f : Int) + r) (σ 32 0 3)) := by simp only [opH, if_pos q]
      have ec : cH β b p (m + 1) r = 1 + cH β b p m (r + 1) := by simp only [cH, if_pos q]
      rw [e, ec]
      refine ⟨?_, hF.tr i2, fun r' a c w => ?_, fun r' w => ?_⟩
      · rw [show o + (1 + cH β b p m (r + 1)) = o + 1 + cH β b p m (r + 1) by omega, show B + ((1 + cH β b p m (r + 1) : Nat) : Int) = B + 1 + (cH β b p m (r + 1) : Nat) by omega]; exact i1
      · by_cases z : r' = r
        · subst z
          rw [i4 r' (Or.inl (by omega)), up_eq ⟨rfl, rfl, rfl⟩, h.1]
          omega
        · have := i3 r' (by omega) (by omega) w
          omega
      · have z : r' ≠ r := by intro z; subst z; rcases w with w | w | w
                              · omega
                              · omega
                              · exact w q
        rw [i4 r' (by omega), up_ne (by omega)]
        exact opR_Fm _ _ _ (by omega)
    · rw [if_neg q] at ho hB
      obtain ⟨i1, i2, i3, i4⟩ := opH_ok hf m (r + 1) σ o B h (by omega) (by omega) (by omega) (by omega)
      have e : opH β b f p (m + 1) r σ = opH β b f p m (r + 1) σ := by simp only [opH, if_neg q]
      have ec : cH β b p (m + 1) r = cH β b p m (r + 1) := by simp only [cH, if_neg q]; omega
      rw [e, ec]
      refine ⟨i1, i2, fun r' a c w => ?_, fun r' w => ?_⟩
      · by_cases z : r' = r
        · subst z; exact absurd w q
        · exact i3 r' (by omega) (by omega) w
      · by_cases z : r' = r
        · exact i4 r' (Or.inl (by omega))
        · exact i4 r' (by omega)
theorem c_setR (hf : f ≤ 12) {σ : SS} {r v : Int} (hr : 0 ≤ r ∧ r < 42) : Rn (d + 2) 116 [vr 1 0, vi (f : Int), vi r, vi v] σ vu (up σ 57 0 (42 * (f : Int) + r) v) := by
  refine G_rn rfl (b_116_0 ⟨fun q => absurd q (by omega), fun _ => ⟨irI (by omega) (by omega), irI (by omega) (by omega), fun σ1 e1 => ⟨rfl, ?_⟩⟩⟩)
  rw [us_in ⟨by omega, by omega⟩] at e1
  rw [e1, show (f : Int) * 42 + r = 42 * (f : Int) + r by omega]
theorem c_openLoop (hf : f ≤ 12) (ho8 : 0 ≤ β 4 b 8 ∧ β 4 b 8 ≤ 40) {P : AV → SS → Prop} : ∀ (m : Nat) (r : Int) (σ : SS) (o : Nat) (B : Int), Fm Crun β σ → StI σ o B → o + cH β b p m r ≤ 546 → B + cH β b p m r ≤ 200000 → 2 ≤ r → r + m = 2 + β 4 b 8 →
    G (d + 3) P 120 16 [vr 1 0, vr 4 b, vi (f : Int), vi (p : Int), vi (2 + β 4 b 8)] [] (opH β b f p m r σ) → G (d + 3) P 120 16 [vr 1 0, vr 4 b, vi (f : Int), vi (p : Int), vi r] [] σ
  | 0, r, σ, o, B, hF, h, _, _, hr, hrm, hG => by
    have : r = 2 + β 4 b 8 := by omega
    subst this
    exact hG
  | m + 1, r, σ, o, B, hF, h, ho, hB, hr, hrm, hG => by
    have e8 : σ 4 b 8 = β 4 b 8 := hF _ _ _ (by unfold Crun; omega)
    have e49 : rg 42 (σ 49 b) r = β 49 b r := by rw [rg_in ⟨by omega, by omega⟩]; exact hF _ _ _ (by unfold Crun; omega)
    have hir : ir (r + 1) := irI (by omega) (by omega)
    simp only [cH] at ho hB
    refine b_120_16 ⟨by rw [e8]; exact irI (by omega) (by omega), fun q => absurd q (by rw [e8]; omega), fun _ => ?_⟩
    rw [e49]
    simp only [opH] at hG
    refine ⟨fun q => ⟨hir, ?_⟩, fun q => ?_⟩
    · rw [if_neg q] at hG ho hB
      exact c_openLoop hf ho8 m (r + 1) σ o B hF h (by omega) (by omega) (by omega) (by omega) hG
    · rw [if_pos q] at hG ho hB
      obtain ⟨h0, h1⟩ := c_open (d := d + 1) h (by omega) (by omega)
      have hF2 : Fm Crun β (up (opR σ) 57 0 (42 * (f : Int) + r) (σ 32 0 3)) := (hF.tr (opR_Fm.mono fun t i j w => by unfold Crun; omega)).up (by unfold Crun; omega)
      have h2 : StI (up (opR σ) 57 0 (42 * (f : Int) + r) (σ 32 0 3)) (o + 1) (B + 1) := h1.keep (C := fun t _ _ => t = 57) ((Fm.rf _).up rfl) (fun t i j w => by omega)
      have h3 := c_setR (d := d + 1) (σ := opR σ) hf (r := r) (v := (o : Int)) ⟨by omega, by omega⟩
      rw [h.1] at hF2 h2 hG
      exact ⟨_, _, h0, _, h3, hir, c_openLoop hf ho8 m (r + 1) _ (o + 1) (B + 1) hF2 h2 (by omega) (by omega) (by omega) (by omega) hG⟩
def Com (f : Nat) : Nat → Int → Int → Prop := fun t i j => Cstm t i j ∨ (t = 85 ∧ 44 * (f : Int) + 2 ≤ j ∧ j < 44 * (f : Int) + 44)
/-- homes and counts, the model's beside the class's -/
def LyE (β τ : SS) : Prop := ∀ b, isB b → τ 76 0 b = β 4 b 8 ∧ (∀ r : Int, 2 ≤ r → r < 2 + β 4 b 8 → τ 75 0 (44 * b + r) = 40 * b + β 49 b r)
theorem LyE.keep {τ τ' : SS} {C : Nat → Int → Int → Prop} (h : LyE β τ) (hF : Fm C τ τ') (hc : ∀ t i j, C t i j → t ≠ 75 ∧ t ≠ 76) : LyE β τ' := fun b hb => ⟨by rw [hF _ _ _ fun q => (hc _ _ _ q).2 rfl]; exact (h b hb).1, fun r a c => by rw [hF _ _ _ fun q => (hc _ _ _ q).1 rfl]; exact (h b hb).2 r a c⟩
theorem m_openLoop (hb : isB b) (hf : f ≤ 12) (ho8 : 0 ≤ β 4 b 8 ∧ β 4 b 8 ≤ 40) : ∀ (m : Nat) (r : Int) (σ τ : SS) (o : Nat) (B : Int), LyE β τ → SR σ τ → StI σ o B → o + cH β b p m r ≤ 546 → B + cH β b p m r ≤ 200000 → 2 ≤ r → r + m = 2 + β 4 b 8 →
    ∃ τ', SR (opH β b f p m r σ) τ' ∧ Fm (Com f) τ τ' ∧ (∀ r' : Int, r ≤ r' → r' < r + m → β 49 b r' = p → τ' 85 0 (44 * (f : Int) + r') = opH β b f p m r σ 57 0 (42 * (f : Int) + r')) ∧ (∀ r' : Int, r' < r ∨ r + m ≤ r' ∨ β 49 b r' ≠ p → τ' 85 0 (44 * (f : Int) + r') = τ 85 0 (44 * (f : Int) + r')) ∧
      ∀ P : AV → SS → Prop, P vu τ' → G (d + 1) P 77 7 [vr 62 0, vi (f : Int), vi (40 * b + (p : Int)), vi 1, vi b, vi r] [] τ
  | 0, r, σ, τ, o, B, hL, hR, h, _, _, hr, hrm => by
    have e76 := (hL b hb).1
    refine ⟨τ, hR, Fm.rf τ, fun r' a c => by omega, fun r' _ => rfl, fun P hP => ?_⟩
    unfold isB at hb
    exact b_77_7 ⟨by omega, by rw [e76]; exact irI (by omega) (by omega), fun _ => hP, fun q => absurd q (by rw [e76]; omega)⟩
  | m + 1, r, σ, τ, o, B, hL, hR, h, ho, hB, hr, hrm => by
    have e76 := (hL b hb).1
    have e75 := (hL b hb).2 r hr (by omega)
    have hb' := hb
    unfold isB at hb'
    have i1 : ir (44 * b) := irI (by omega) (by omega)
    have i2 : ir (44 * b + r) := irI (by omega) (by omega)
    have rg1 : 0 ≤ 44 * b + r ∧ 44 * b + r < 132 := by omega
    have hir : ir (r + 1) := irI (by omega) (by omega)
    simp only [cH] at ho hB
    by_cases q : β 49 b r = p
    · rw [if_pos q] at ho hB
      have eo : opH β b f p (m + 1) r σ = opH β b f p m (r + 1) (up (opR σ) 57 0 (42 * (f : Int) + r) (σ 32 0 3)) := by simp only [opH, if_pos q]
      obtain ⟨-, h1⟩ := c_open (d := 0) h (by omega) (by omega)
      have h2 : StI (up (opR σ) 57 0 (42 * (f : Int) + r) (σ 32 0 3)) (o + 1) (B + 1) := h1.keep (C := fun t _ _ => t = 57) ((Fm.rf _).up rfl) (fun t i j w => by omega)
      obtain ⟨τ1, j1, j2, j3⟩ := m_open (d := d) h hR (by omega) (by omega)
      let τ2 := up τ1 85 0 (44 * (f : Int) + r) o
      have f2 : Fm (Com f) τ τ2 := (j3.mono fun t i j w => Or.inl w).up (Or.inr ⟨rfl, by omega, by omega⟩)
      have hR2 : SR (up (opR σ) 57 0 (42 * (f : Int) + r) (σ 32 0 3)) τ2 := (j2.keepC (C := fun t _ _ => t = 57) ((Fm.rf _).up rfl) (fun t i j w z => by unfold Csto at z; omega)).keep (C := fun t _ _ => t = 85) ((Fm.rf τ1).up rfl) (fun t i j w z => by unfold Cstm at z; omega)
      have hL2 : LyE β τ2 := hL.keep f2 (fun t i j w => by unfold Com Cstm at w; omega)
      obtain ⟨τ', k1, k2, k3, k4, k5⟩ := m_openLoop hb hf ho8 m (r + 1) _ τ2 (o + 1) (B + 1) hL2 hR2 h2 (by omega) (by omega) (by omega) (by omega)
      obtain ⟨y1, y2, y3, y4⟩ := opH_ok (β := β) (b := b) (p := p) hf m (r + 1) _ (o + 1) (B + 1) h2 (by omega) (by omega) (by omega) (by omega)
      rw [eo]
      refine ⟨τ', k1, f2.tr k2, fun r' a c w => ?_, fun r' w => ?_, fun P hP => ?_⟩
      · by_cases z : r' = r
        · subst z
          rw [k4 r' (Or.inl (by omega)), y4 r' (Or.inl (by omega)), up_eq ⟨rfl, rfl, rfl⟩, h.1]
          exact up_eq ⟨rfl, rfl, rfl⟩
        · exact k3 r' (by omega) (by omega) w
      · have z : r' ≠ r := by intro z; subst z; rcases w with w | w | w
                              · omega
                              · omega
                              · exact w q
        rw [k4 r' (by omega)]
        simp only [τ2]
        rw [up_ne (by omega)]
        exact j3 _ _ _ (by unfold Cstm; omega)
      · refine b_77_7 ⟨by omega, by rw [e76]; exact irI (by omega) (by omega), fun w => absurd w (by rw [e76]; omega), fun _ => ⟨i1, i2, rg1, ?_⟩⟩
        rw [e75]
        refine ⟨fun w => absurd (by omega) w, fun _ => ⟨fun w => absurd w (by decide), fun _ => ⟨irI (by omega) (by omega), irI (by omega) (by omega), _, τ1, j1, by omega, fun τ3 e3 => ⟨hir, ?_⟩⟩⟩⟩
        have := k5 P hP
        rw [e3]
        exact this
    · rw [if_neg q] at ho hB
      have eo : opH β b f p (m + 1) r σ = opH β b f p m (r + 1) σ := by simp only [opH, if_neg q]
      obtain ⟨τ', k1, k2, k3, k4, k5⟩ := m_openLoop hb hf ho8 m (r + 1) σ τ o B hL hR h (by omega) (by omega) (by omega) (by omega)
      rw [eo]
      refine ⟨τ', k1, k2, fun r' a c w => ?_, fun r' w => ?_, fun P hP => ?_⟩
      · by_cases z : r' = r
        · subst z; exact absurd w q
        · exact k3 r' (by omega) (by omega) w
      · by_cases z : r' = r
        · exact k4 r' (Or.inl (by omega))
        · exact k4 r' (by omega)
      · refine b_77_7 ⟨by omega, by rw [e76]; exact irI (by omega) (by omega), fun w => absurd w (by rw [e76]; omega), fun _ => ⟨i1, i2, rg1, ?_⟩⟩
        rw [e75]
        exact ⟨fun _ => ⟨i1, i2, rg1, fun _ => ⟨hir, k5 P hP⟩, fun w => absurd w (by omega)⟩, fun w => absurd w (by omega)⟩
theorem clH_ok : ∀ (m : Nat) (r : Int) (σ : SS) (o : Nat) (B : Int), StI σ (o + cH β b p m r) B → o + cH β b p m r ≤ 546 → StI (clH β b p m r σ) o B ∧ Fm (fun t _ j => t = 32 ∧ (j = 3 ∨ j = 4 ∨ j = 5)) σ (clH β b p m r σ)
  | 0, r, σ, o, B, h, _ => ⟨by simpa [cH, clH] using h, Fm.rf σ⟩
  | m + 1, r, σ, o, B, h, ho => by
    simp only [cH] at h ho
    by_cases q : β 49 b r = p
    · rw [if_pos q] at h ho
      obtain ⟨-, h1⟩ := c_close (d := 0) (o := o + cH β b p m (r + 1)) (by rw [show o + cH β b p m (r + 1) + 1 = o + (1 + cH β b p m (r + 1)) by omega]; exact h) (by omega)
      obtain ⟨i1, i2⟩ := clH_ok m (r + 1) (clR σ) o B h1 (by omega)
      simp only [clH, if_pos q]
      exact ⟨i1, clR_Fm.tr i2⟩
    · rw [if_neg q, Nat.zero_add] at h ho
      simp only [clH, if_neg q]
      exact clH_ok m (r + 1) σ o B h ho
theorem c_closeLoop (ho8 : 0 ≤ β 4 b 8 ∧ β 4 b 8 ≤ 40) {P : AV → SS → Prop} : ∀ (m : Nat) (r : Int) (σ : SS) (o : Nat) (B : Int), Fm Crun β σ → StI σ (o + cH β b p m r) B → o + cH β b p m r ≤ 546 → 2 ≤ r → r + m = 2 + β 4 b 8 →
    G (d + 2) P 122 2 [vr 1 0, vr 4 b, vi (p : Int), vi (2 + β 4 b 8)] [] (clH β b p m r σ) → G (d + 2) P 122 2 [vr 1 0, vr 4 b, vi (p : Int), vi r] [] σ
  | 0, r, σ, o, B, hF, h, _, hr, hrm, hG => by
    have : r = 2 + β 4 b 8 := by omega
    subst this
    exact hG
  | m + 1, r, σ, o, B, hF, h, ho, hr, hrm, hG => by
    have e8 : σ 4 b 8 = β 4 b 8 := hF _ _ _ (by unfold Crun; omega)
    have e49 : rg 42 (σ 49 b) r = β 49 b r := by rw [rg_in ⟨by omega, by omega⟩]; exact hF _ _ _ (by unfold Crun; omega)
    have hir : ir (r + 1) := irI (by omega) (by omega)
    simp only [cH] at h ho
    refine b_122_2 ⟨by rw [e8]; exact irI (by omega) (by omega), fun q => absurd q (by rw [e8]; omega), fun _ => ?_⟩
    rw [e49]
    simp only [clH] at hG
    refine ⟨fun q => ⟨hir, ?_⟩, fun q => ?_⟩
    · rw [if_neg q] at hG h ho
      rw [Nat.zero_add] at h ho
      exact c_closeLoop ho8 m (r + 1) σ o B hF h ho (by omega) (by omega) hG
    · rw [if_pos q] at hG h ho
      obtain ⟨h0, h1⟩ := c_close (d := d) (o := o + cH β b p m (r + 1)) (by rw [show o + cH β b p m (r + 1) + 1 = o + (1 + cH β b p m (r + 1)) by omega]; exact h) (by omega)
      exact ⟨_, h0, hir, c_closeLoop ho8 m (r + 1) _ o B (hF.tr (clR_Fm.mono fun t i j w => by unfold Crun; omega)) h1 (by omega) (by omega) (by omega) hG⟩
theorem m_closeLoop (hb : isB b) (ho8 : 0 ≤ β 4 b 8 ∧ β 4 b 8 ≤ 40) : ∀ (m : Nat) (r : Int) (σ τ : SS) (o : Nat) (B : Int), LyE β τ → SR σ τ → StI σ (o + cH β b p m r) B → o + cH β b p m r ≤ 546 → 2 ≤ r → r + m = 2 + β 4 b 8 →
    ∃ τ', SR (clH β b p m r σ) τ' ∧ Fm Cstm τ τ' ∧ ∀ P : AV → SS → Prop, P vu τ' → G (d + 1) P 77 7 [vr 62 0, vi (f : Int), vi (40 * b + (p : Int)), vi 0, vi b, vi r] [] τ
  | 0, r, σ, τ, o, B, hL, hR, h, _, hr, hrm => by
    have e76 := (hL b hb).1
    refine ⟨τ, hR, Fm.rf τ, fun P hP => ?_⟩
    unfold isB at hb
    exact b_77_7 ⟨by omega, by rw [e76]; exact irI (by omega) (by omega), fun _ => hP, fun q => absurd q (by rw [e76]; omega)⟩
  | m + 1, r, σ, τ, o, B, hL, hR, h, ho, hr, hrm => by
    have e76 := (hL b hb).1
    have e75 := (hL b hb).2 r hr (by omega)
    have hb' := hb
    unfold isB at hb'
    have i1 : ir (44 * b) := irI (by omega) (by omega)
    have i2 : ir (44 * b + r) := irI (by omega) (by omega)
    have rg1 : 0 ≤ 44 * b + r ∧ 44 * b + r < 132 := by omega
    have hir : ir (r + 1) := irI (by omega) (by omega)
    simp only [cH] at h ho
    by_cases q : β 49 b r = p
    · rw [if_pos q] at h ho
      have h' : StI σ (o + cH β b p m (r + 1) + 1) B := by rw [show o + cH β b p m (r + 1) + 1 = o + (1 + cH β b p m (r + 1)) by omega]; exact h
      obtain ⟨-, h1⟩ := c_close (d := 0) h' (by omega)
      obtain ⟨τ1, j1, j2, j3⟩ := m_close (d := d) h' hR (by omega)
      obtain ⟨τ', k1, k2, k3⟩ := m_closeLoop hb ho8 m (r + 1) (clR σ) τ1 o B (hL.keep j3 (fun t i j w => by unfold Cstm at w; omega)) j2 h1 (by omega) (by omega) (by omega)
      simp only [clH, if_pos q]
      refine ⟨τ', k1, j3.tr k2, fun P hP => ?_⟩
      refine b_77_7 ⟨by omega, by rw [e76]; exact irI (by omega) (by omega), fun w => absurd w (by rw [e76]; omega), fun _ => ⟨i1, i2, rg1, ?_⟩⟩
      rw [e75]
      exact ⟨fun w => absurd (by omega) w, fun _ => ⟨fun _ => ⟨i1, i2, rg1, fun w => absurd (by omega) w, fun _ => ⟨τ1, j1, hir, k3 P hP⟩⟩, fun w => absurd rfl w⟩⟩
    · rw [if_neg q, Nat.zero_add] at h ho
      simp only [clH, if_neg q]
      obtain ⟨τ', k1, k2, k3⟩ := m_closeLoop hb ho8 m (r + 1) σ τ o B hL hR h ho (by omega) (by omega)
      refine ⟨τ', k1, k2, fun P hP => ?_⟩
      refine b_77_7 ⟨by omega, by rw [e76]; exact irI (by omega) (by omega), fun w => absurd w (by rw [e76]; omega), fun _ => ⟨i1, i2, rg1, ?_⟩⟩
      rw [e75]
      exact ⟨fun _ => ⟨i1, i2, rg1, fun _ => ⟨hir, k3 P hP⟩, fun w => absurd w (by omega)⟩, fun w => absurd w (by omega)⟩
end HOMES
