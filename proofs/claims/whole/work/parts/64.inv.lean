/-! ===== what holds between calls ===== -/
def ImgC (T : TP) (σ : SS) (n : Int) : Prop := ∀ b, isB b → σ 33 (3 * n + b) 1 = (tN T b : Int) ∧ σ 33 (3 * n + b) 2 = tG T b ∧ σ 33 (3 * n + b) 3 = tV T b ∧ ∀ p : Int, 0 ≤ p → p < 40 → σ 61 (3 * n + b) p = tS T b p
def ImgM (T : TP) (σ : SS) (n : Int) : Prop := ∀ b, isB b → σ 89 0 (130 * n + 6 + b) = (tN T b : Int) ∧ σ 89 0 (130 * n + b) = tG T b ∧ σ 89 0 (130 * n + 3 + b) = tV T b ∧ ∀ p : Int, 0 ≤ p → p < 40 → σ 89 0 (130 * n + 9 + (40 * b + p)) = tS T b p
def Imgs (σ : SS) : Prop := ∀ n : Int, (n = 0 ∨ n = 1) → σ 90 0 n = σ 35 0 n ∧ (σ 35 0 n = 0 ∨ (σ 35 0 n = 1 ∧ ∃ T, TOKA T ∧ ImgC T σ n ∧ ImgM T σ n))
def Chg (T : TP) (σ : SS) : Prop := σ 1 0 15 = σ 2 0 1 → welA T ∧ RunM T 1 (σ 1 0 16) (σ 1 0 17) σ ∧ RunC σ
def InvT (T : TP) (k : Nat) (σ : SS) : Prop := TOKA T ∧ CB T σ ∧ MTx T σ ∧ (0 ≤ σ 2 0 1 ∧ σ 2 0 1 ≤ k) ∧ σ 2 0 2 ≤ σ 2 0 1 ∧ σ 1 0 15 ≤ σ 2 0 1 ∧ Chg T σ ∧ Imgs σ
def Inv (k : Nat) (σ : SS) : Prop := ∃ T, InvT T k σ
theorem f99 {C : Nat → Int → Int → Prop} {σ σ' : SS} (h : Fm C σ σ') (hc : ∀ i j, ¬ C 99 i j) : σ' 99 = σ 99 := funext fun i => funext fun j => h 99 i j (hc i j)
theorem Inv.step {k : Nat} {σ : SS} (h : Inv k σ) : Inv (k + 1) σ := by
  obtain ⟨T, h1, h2, h3, h4, h5⟩ := h
  exact ⟨T, h1, h2, h3, by omega, h5⟩
theorem RunM.cong {T : TP} {d' : Nat} {b n : Int} {σ σ' : SS} (h : RunM T d' b n σ) (h1 : ∀ j, σ' 1 0 j = σ 1 0 j) (h2 : ∀ j, σ' 32 0 j = σ 32 0 j) : RunM T d' b n σ' := by
  unfold RunM
  simp only [h1, h2]
  exact h
theorem RunC.cong {σ σ' : SS} (h : RunC σ) (h1 : ∀ j, σ' 1 0 j = σ 1 0 j) (h2 : ∀ j, σ' 32 0 j = σ 32 0 j) : RunC σ' := by
  unfold RunC
  simp only [h1, h2]
  exact h
theorem Imgs.keep {C : Nat → Int → Int → Prop} {σ σ' : SS} (h : Imgs σ) (hF : Fm C σ σ') (hc : ∀ t i j, C t i j → t ≠ 33 ∧ t ≠ 35 ∧ t ≠ 61 ∧ t ≠ 89 ∧ t ≠ 90) : Imgs σ' := by
  intro n hn
  obtain ⟨h1, h2⟩ := h n hn
  have e35 : σ' 35 0 n = σ 35 0 n := hF _ _ _ fun q => (hc _ _ _ q).2.1 rfl
  have e90 : σ' 90 0 n = σ 90 0 n := hF _ _ _ fun q => (hc _ _ _ q).2.2.2.2 rfl
  rw [e35, e90]
  refine ⟨h1, h2.imp id fun ⟨a, T, t1, t2, t3⟩ => ⟨a, T, t1, fun b hb => ?_, fun b hb => ?_⟩⟩
  · obtain ⟨y1, y2, y3, y4⟩ := t2 b hb
    have e : ∀ j, σ' 33 (3 * n + b) j = σ 33 (3 * n + b) j := fun j => hF _ _ _ fun q => (hc _ _ _ q).1 rfl
    rw [e, e, e]
    exact ⟨y1, y2, y3, fun p p1 p2 => (hF _ _ _ fun q => (hc _ _ _ q).2.2.1 rfl).trans (y4 p p1 p2)⟩
  · obtain ⟨y1, y2, y3, y4⟩ := t3 b hb
    have e : ∀ j, σ' 89 0 j = σ 89 0 j := fun j => hF _ _ _ fun q => (hc _ _ _ q).2.2.2.1 rfl
    rw [e, e, e]
    exact ⟨y1, y2, y3, fun p p1 p2 => (e _).trans (y4 p p1 p2)⟩
theorem CB.keep {T : TP} {C : Nat → Int → Int → Prop} {σ σ' : SS} (h : CB T σ) (hF : Fm C σ σ') (hc : ∀ t i j, C t i j → t = 1 ∨ t = 32 ∨ t = 33 ∨ t = 35 ∨ 50 ≤ t) : CB T σ' := by
  obtain ⟨h1, h2, h3, h4⟩ := h
  refine ⟨h1.keep hF (fun t i j q => by have := hc t i j q; omega), h2.keep hF (fun t i j q => by have := hc t i j q; omega), h3.keep hF (fun t i j q => by have := hc t i j q; omega), ?_⟩
  rw [hF 2 0 2 fun q => by have := hc _ _ _ q; omega, hF 2 0 1 fun q => by have := hc _ _ _ q; omega]
  intro q
  unfold CSt
  rw [hF 2 0 3 fun q => by have := hc _ _ _ q; omega]
  exact (h4 q).imp (fun ⟨a, c, e⟩ => ⟨a, c, e.keep hF (fun t i j q => by have := hc t i j q; omega)⟩) id
/-- a call that changes nothing but the model's working -/
theorem InvT.keepM {T : TP} {C : Nat → Int → Int → Prop} {k : Nat} {σ σ' : SS} (h : InvT T k σ) (hF : Fm C σ σ') (hc : ∀ t i j, C t i j → t = 62 ∨ (67 ≤ t ∧ t ≤ 88)) : InvT T k σ' := by
  obtain ⟨h1, h2, h3, h4, h5, h6, h7, h8⟩ := h
  have e : ∀ (t : Nat) (i j : Int), t < 62 → σ' t i j = σ t i j := fun t i j ht => hF _ _ _ fun q => by have := hc _ _ _ q; omega
  refine ⟨h1, h2.keep hF (fun t i j q => by have := hc t i j q; omega), h3.keep hF (fun t i j q => by have := hc t i j q; omega), by rw [e _ _ _ (by omega)]; exact h4, by rw [e _ _ _ (by omega), e _ _ _ (by omega)]; exact h5, by rw [e _ _ _ (by omega), e _ _ _ (by omega)]; exact h6, ?_, h8.keep hF (fun t i j q => by have := hc t i j q; omega)⟩
  unfold Chg
  rw [e 1 _ _ (by omega), e 2 _ _ (by omega), e 1 0 16 (by omega), e 1 0 17 (by omega)]
  exact fun q => ⟨(h7 q).1, (h7 q).2.1.cong (fun j => e _ _ _ (by omega)) (fun j => e _ _ _ (by omega)), (h7 q).2.2.cong (fun j => e _ _ _ (by omega)) (fun j => e _ _ _ (by omega))⟩
/-- settled -/
theorem InvT.settle {T : TP} {k : Nat} {σ : SS} (h : InvT T k σ) {d : Nat} : ∃ w σ', Rn (d + 6) 107 [vr 2 0] σ (vi w) σ' ∧ Fm Cse σ σ' ∧ InvT T k σ' ∧ ((w = 1 ∧ welA T ∧ LyC T σ') ∨ (w = 0 ∧ ¬ welA T)) := by
  obtain ⟨h1, h2, h3, h4, h5, h6, h7, h8⟩ := h
  obtain ⟨w, σ', r1, r2, r3, r4, r5⟩ := c_settle (d := d) h1 h2
  have e : ∀ (t : Nat) (i j : Int), t ≠ 4 → (t < 46 ∨ 49 < t) → (t = 2 → j ≠ 2 ∧ j ≠ 3) → σ' t i j = σ t i j := fun t i j h1 h2 h3 => r2 _ _ _ fun q => by unfold Cse at q; omega
  refine ⟨w, σ', r1, r2, ⟨h1, r3, h3.keep r2 (fun t i j q => by unfold Cse at q; omega), by rw [e 2 _ _ (by omega) (by omega) (by omega)]; exact h4, by rw [r4]; exact Int.le_refl _, by rw [e 1 _ _ (by omega) (by omega) (by omega), e 2 _ _ (by omega) (by omega) (by omega)]; exact h6, ?_, h8.keep r2 (fun t i j q => by unfold Cse at q; omega)⟩, r5.imp (fun ⟨a, c, l⟩ => ⟨a, c, h1, c, CW_of r3.1 r3.2.1 r3.2.2.1 c, l⟩) id⟩
  unfold Chg
  rw [e 1 _ _ (by omega) (by omega) (by omega), e 2 _ _ (by omega) (by omega) (by omega), e 1 0 16 (by omega) (by omega) (by omega), e 1 0 17 (by omega) (by omega) (by omega)]
  exact fun q => ⟨(h7 q).1, (h7 q).2.1.cong (fun j => e _ _ _ (by omega) (by omega) (by omega)) (fun j => e _ _ _ (by omega) (by omega) (by omega)), (h7 q).2.2.cong (fun j => e _ _ _ (by omega) (by omega) (by omega)) (fun j => e _ _ _ (by omega) (by omega) (by omega))⟩
theorem ifB {l : Int} : ((if 0 ≤ l ∧ l ≤ 2 then (1 : Int) else 0) = 0 ↔ ¬ isB l) ∧ ((if 0 ≤ l ∧ l ≤ 2 then (1 : Int) else 0) ≠ 0 ↔ isB l) := by
  unfold isB
  by_cases q : 0 ≤ l ∧ l ≤ 2
  · rw [if_pos q]; constructor <;> constructor <;> intro h <;> omega
  · rw [if_neg q]; constructor <;> constructor <;> intro h <;> omega
/-- fault -/
theorem ag_29 (a1 : Int) (_ : ir a1) : Agr Inv 29 52 [vi a1] := by
  intro k σ hk hI
  obtain ⟨T, hI⟩ := hI
  obtain ⟨hT, hB, hM, hch, -⟩ := id hI
  by_cases hb : isB a1
  · obtain ⟨f, σ2, r1, r2, r3, -⟩ := m_read (d := 5) hT hb hM
    have e := IsFA_uniq (hB.2.1 a1 hb).1 r2
    refine ⟨f, σ, σ2, G_rn rfl (b_29_0 (d := 7) ⟨some (4, a1), σ, s_15 hb, b_29_4r ⟨by rw [e], rfl⟩⟩), G_rn rfl (b_52_0 (d := 5) ⟨fun q => absurd hb (ifB.1.mp q), fun _ => ⟨f, σ2, r1, rfl, rfl⟩⟩), Inv.step ⟨T, hI.keepM r3 (fun t i j q => by unfold Crd at q; omega)⟩, rfl, f99 r3 (fun i j q => by unfold Crd at q; omega)⟩
  · exact ⟨-1, σ, σ, G_rn rfl (b_29_0 (d := 7) ⟨none, σ, s_15n hb, b_29_4n ⟨rfl, rfl⟩⟩), G_rn rfl (b_52_0 (d := 5) ⟨fun _ => ⟨rfl, rfl⟩, fun q => absurd (ifB.2.mp q) hb⟩), Inv.step ⟨T, hI⟩, rfl, rfl⟩
/-- told -/
theorem ag_42 (a1 : Int) (ha : ir a1) : Agr Inv 42 87 [vi a1] := by
  intro k σ hk hI
  have hI' := hI
  obtain ⟨T, hT, hB, hM, hch, -⟩ := hI
  have ha' := ha
  unfold ir at ha'
  suffices h : ∃ x, Rn 9 42 [vr 0 0, vi a1] σ (vi x) σ ∧ Rn 9 87 [vr 62 0, vi a1] σ (vi x) σ by
    obtain ⟨x, h1, h2⟩ := h
    exact ⟨x, σ, σ, h1, h2, hI'.step, rfl, rfl⟩
  by_cases hb : isB a1
  · obtain ⟨c1, -⟩ := hB.1 a1 hb
    obtain ⟨m1, -⟩ := hM a1 hb
    have hb' := hb
    unfold isB at hb'
    exact ⟨tN T a1, G_rn rfl (b_42_0 (d := 7) ⟨some (4, a1), σ, s_15 hb, b_42_4r ⟨by rw [c1], rfl⟩⟩), G_rn rfl (b_87_0 (d := 6) ⟨fun _ => ⟨fun _ => ⟨fun q => absurd hb (ifB.1.mp q), fun _ => ⟨hb', by rw [m1], rfl⟩⟩, fun q => absurd q (by omega)⟩, fun q => absurd q (by omega)⟩)⟩
  have hnb := hb
  unfold isB at hnb
  by_cases h10 : 10 ≤ a1 ∧ a1 ≤ 12
  · have hc : isB (a1 - 10) := by unfold isB; omega
    obtain ⟨c1, c2, c3, -⟩ := hB.1 _ hc
    obtain ⟨m1, m2, m3, -⟩ := hM _ hc
    obtain ⟨t1, t2, t3, -⟩ := hT _ hc
    have i1 : ir (10 * tG T (a1 - 10)) := irI (by omega) (by omega)
    have i2 : ir (10 * tG T (a1 - 10) + tV T (a1 - 10)) := irI (by omega) (by omega)
    have i3 : ir (a1 - 10) := irI (by omega) (by omega)
    refine ⟨10 * tG T (a1 - 10) + tV T (a1 - 10), G_rn rfl (b_42_0 (d := 7) ⟨none, σ, s_15n hb, b_42_4n ⟨fun q => absurd q (by rw [if_pos h10]; omega), fun _ => ⟨i3, some (4, a1 - 10), σ, s_15 hc, b_42_22r ?_⟩⟩⟩), G_rn rfl (b_87_0 (d := 6) ⟨fun _ => ⟨fun q => absurd q (by omega), fun _ => ⟨fun q => absurd q (by omega), fun _ => ⟨i3, hc, ?_⟩⟩⟩, fun q => absurd q (by omega)⟩)⟩
    · rw [c2, c3]; exact ⟨⟨i1, i2⟩, rfl, rfl⟩
    · rw [m2, m3]; exact ⟨i1, i3, hc, i2, rfl, rfl⟩
  by_cases h100 : 100 ≤ a1
  · have i1 : ir (a1 / 100 - 1) := irI (by omega) (by omega)
    have i0 : 0 ≤ a1 := by omega
    by_cases hc : isB (a1 / 100 - 1)
    · obtain ⟨c1, c2, c3, c4⟩ := hB.1 _ hc
      obtain ⟨m1, m2, m3, m4⟩ := hM _ hc
      have hn := (hT _ hc).1
      have hc' := hc
      unfold isB at hc'
      by_cases hp : a1 % 100 < tN T (a1 / 100 - 1)
      · refine ⟨tS T (a1 / 100 - 1) (a1 % 100), G_rn rfl (b_42_0 (d := 7) ⟨none, σ, s_15n hb, b_42_4n ⟨fun _ => ⟨fun _ => ⟨⟨i0, by decide⟩, i1, some (4, a1 / 100 - 1), σ, s_15 hc, b_42_44r ⟨⟨i0, by decide⟩, fun _ => ⟨⟨i0, by decide⟩, ?_⟩, fun q => ?_⟩⟩, fun q => absurd q (by omega)⟩, fun q => absurd q (by rw [if_neg h10]; omega)⟩⟩), G_rn rfl (b_87_0 (d := 6) ⟨fun q => absurd q (by omega), fun _ => ⟨⟨i0, by decide⟩, i1, ⟨i0, by decide⟩, fun q => absurd hc (ifB.1.mp q), fun _ => ⟨hc, fun q => absurd q (by rw [m1]; omega), fun _ => ⟨irI (by omega) (by omega), irI (by omega) (by omega), by omega, ?_⟩⟩⟩⟩)⟩
        · rw [rg_in ⟨by omega, by omega⟩, c4 _ (by omega) (by omega)]; exact ⟨rfl, rfl⟩
        · rw [c1, if_pos ⟨by omega, hp⟩] at q; omega
        · rw [m4 _ (by omega) (by omega)]; exact ⟨rfl, rfl⟩
      · refine ⟨-2, G_rn rfl (b_42_0 (d := 7) ⟨none, σ, s_15n hb, b_42_4n ⟨fun _ => ⟨fun _ => ⟨⟨i0, by decide⟩, i1, some (4, a1 / 100 - 1), σ, s_15 hc, b_42_44r ⟨⟨i0, by decide⟩, fun q => ?_, fun _ => ⟨rfl, rfl⟩⟩⟩, fun q => absurd q (by omega)⟩, fun q => absurd q (by rw [if_neg h10]; omega)⟩⟩), G_rn rfl (b_87_0 (d := 6) ⟨fun q => absurd q (by omega), fun _ => ⟨⟨i0, by decide⟩, i1, ⟨i0, by decide⟩, fun q => absurd hc (ifB.1.mp q), fun _ => ⟨hc, fun _ => ⟨rfl, rfl⟩, fun q => absurd q (by rw [m1]; omega)⟩⟩⟩)⟩
        rw [c1, if_neg (by omega)] at q; omega
    · exact ⟨-2, G_rn rfl (b_42_0 (d := 7) ⟨none, σ, s_15n hb, b_42_4n ⟨fun _ => ⟨fun _ => ⟨⟨i0, by decide⟩, i1, none, σ, s_15n hc, b_42_44n ⟨rfl, rfl⟩⟩, fun q => absurd q (by omega)⟩, fun q => absurd q (by rw [if_neg h10]; omega)⟩⟩), G_rn rfl (b_87_0 (d := 6) ⟨fun q => absurd q (by omega), fun _ => ⟨⟨i0, by decide⟩, i1, ⟨i0, by decide⟩, fun _ => ⟨rfl, rfl⟩, fun q => absurd (ifB.2.mp q) hc⟩⟩)⟩
  · exact ⟨-2, G_rn rfl (b_42_0 (d := 7) ⟨none, σ, s_15n hb, b_42_4n ⟨fun _ => ⟨fun q => absurd q h100, fun _ => ⟨rfl, rfl⟩⟩, fun q => absurd q (by rw [if_neg h10]; omega)⟩⟩), G_rn rfl (b_87_0 (d := 6) ⟨fun _ => ⟨fun _ => ⟨fun _ => ⟨rfl, rfl⟩, fun q => absurd (ifB.2.mp q) hb⟩, fun q => ⟨fun _ => ⟨rfl, rfl⟩, fun q' => absurd ⟨q, by omega⟩ h10⟩⟩, fun q => absurd q h100⟩)⟩
