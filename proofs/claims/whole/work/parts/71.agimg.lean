/-! ===== agreement: image ===== -/
section IMG
variable {d : Nat}
/-- image n is kept: the model's texts -/
theorem m_image {T : TP} {n : Int} (hn : n = 0 ∨ n = 1) {σ : SS} (hM : MTx T σ) : ∃ σ', Rn (d + 2) 85 [vr 62 0, vi n] σ (vi 1) σ' ∧ Fm (fun t i j => (t = 89 ∧ 130 * n ≤ j ∧ j < 130 * n + 130) ∨ (t = 90 ∧ i = 0 ∧ j = n)) σ σ' ∧ ImgM T σ' n ∧ σ' 90 0 n = 1 := by
  let PP : AV → SS → Prop := fun v σ' => v = vi 1 ∧ Fm (fun t i j => (t = 89 ∧ 130 * n ≤ j ∧ j < 130 * n + 130) ∨ (t = 90 ∧ i = 0 ∧ j = n)) σ σ' ∧ ImgM T σ' n ∧ σ' 90 0 n = 1
  have i0 : ir (130 * n) := irI (by omega) (by omega)
  have loop2 : ∀ (m k : Nat) (σ1 : SS), k + m = 120 → Fm (fun t _ j => t = 89 ∧ 130 * n ≤ j ∧ j < 130 * n + 130) σ σ1 → (∀ b : Int, isB b → σ1 89 0 (130 * n + b) = tG T b ∧ σ1 89 0 (130 * n + 3 + b) = tV T b ∧ σ1 89 0 (130 * n + 6 + b) = (tN T b : Int)) → (∀ x : Int, 0 ≤ x → x < k → σ1 89 0 (130 * n + 9 + x) = σ 66 0 x) → G (d + 1) PP 85 54 [vr 62 0, vi n, vi (130 * n), vi (k : Int)] [] σ1 := by
    intro m
    induction m with
    | zero =>
      intro k σ1 hk hF hb3 hx
      obtain rfl : k = 120 := by omega
      refine b_85_54 ⟨fun _ => ⟨⟨by omega, Or.inr rfl⟩, fun σ2 e2 => ⟨rfl, ?_, fun b hb => ?_, ?_⟩⟩, fun w => absurd w (by omega)⟩
      · rw [e2]; exact (hF.mono fun t i j w => Or.inl w).up (by omega)
      · obtain ⟨y1, y2, y3⟩ := hb3 b hb
        have hm := (hM b hb).2.2.2
        unfold isB at hb
        have k2 : ∀ j, σ2 89 0 j = σ1 89 0 j := fun j => by rw [e2, up_ne (by omega)]
        rw [k2, k2, k2]
        exact ⟨y3, y1, y2, fun p p1 p2 => by rw [k2, hx _ (by omega) (by omega)]; exact hm p p1 p2⟩
      · rw [e2]; exact up_eq ⟨rfl, rfl, rfl⟩
    | succ m ih =>
      intro k σ1 hk hF hb3 hx
      have e66 : σ1 66 0 (k : Int) = σ 66 0 k := hF _ _ _ (by omega)
      refine b_85_54 ⟨fun w => absurd w (by omega), fun _ => ⟨irI (by omega) (by omega), irI (by omega) (by omega), by omega, by omega, fun σ2 e2 => ⟨irI (by omega) (by omega), ?_⟩⟩⟩
      rw [e66] at e2
      refine ih (k + 1) σ2 (by omega) (by rw [e2]; exact hF.up (by omega)) (fun b hb => ?_) fun x x1 x2 => ?_
      · have hb' := hb
        unfold isB at hb'
        rw [e2, up_ne (by omega), up_ne (by omega), up_ne (by omega)]
        exact hb3 b hb
      · rw [e2]
        by_cases w : x = k
        · rw [w]; exact up_eq ⟨rfl, rfl, rfl⟩
        · rw [up_ne (by omega)]; exact hx x x1 (by omega)
  have loop1 : ∀ (m k : Nat) (σ1 : SS), k + m = 3 → Fm (fun t _ j => t = 89 ∧ 130 * n ≤ j ∧ j < 130 * n + 130) σ σ1 → (∀ b : Int, 0 ≤ b → b < k → σ1 89 0 (130 * n + b) = tG T b ∧ σ1 89 0 (130 * n + 3 + b) = tV T b ∧ σ1 89 0 (130 * n + 6 + b) = (tN T b : Int)) → G (d + 1) PP 85 13 [vr 62 0, vi n, vi (130 * n), vi (k : Int)] [] σ1 := by
    intro m
    induction m with
    | zero =>
      intro k σ1 hk hF hb3
      obtain rfl : k = 3 := by omega
      exact b_85_13 ⟨fun _ => loop2 120 0 σ1 rfl hF (fun b hb => by unfold isB at hb; exact hb3 b hb.1 (by omega)) (fun x x1 x2 => by omega), fun w => absurd w (by omega)⟩
    | succ m ih =>
      intro k σ1 hk hF hb3
      have hb : isB (k : Int) := by unfold isB; omega
      obtain ⟨c1, c2, c3, c4⟩ := hM _ hb
      have e63 : σ1 63 0 (k : Int) = tG T k := (hF _ _ _ (by omega)).trans c2
      have e64 : σ1 64 0 (k : Int) = tV T k := (hF _ _ _ (by omega)).trans c3
      have e65 : σ1 65 0 (k : Int) = tN T k := (hF _ _ _ (by omega)).trans c1
      refine b_85_13 ⟨fun w => absurd w (by omega), fun _ => ⟨irI (by omega) (by omega), by omega, by omega, fun σ2 e2 => ?_⟩⟩
      have a2 : σ2 64 0 (k : Int) = tV T k := by rw [e2, up_ne (by omega)]; exact e64
      refine ⟨irI (by omega) (by omega), irI (by omega) (by omega), by omega, by omega, fun σ3 e3 => ?_⟩
      have a3 : σ3 65 0 (k : Int) = tN T k := by rw [e3, up_ne (by omega), e2, up_ne (by omega)]; exact e65
      refine ⟨irI (by omega) (by omega), irI (by omega) (by omega), by omega, by omega, fun σ4 e4 => ⟨irI (by omega) (by omega), ?_⟩⟩
      rw [e63] at e2
      rw [a2] at e3
      rw [a3] at e4
      refine ih (k + 1) σ4 (by omega) (by rw [e4, e3, e2]; exact ((hF.up (by omega)).up (by omega)).up (by omega)) fun b b1 b2 => ?_
      by_cases w : b = k
      · rw [w]
        refine ⟨?_, ?_, ?_⟩
        · rw [e4, up_ne (by omega), e3, up_ne (by omega), e2]; exact up_eq ⟨rfl, rfl, rfl⟩
        · rw [e4, up_ne (by omega), e3]; exact up_eq ⟨rfl, rfl, rfl⟩
        · rw [e4]; exact up_eq ⟨rfl, rfl, rfl⟩
      · rw [e4, up_ne (by omega), up_ne (by omega), up_ne (by omega), e3, up_ne (by omega), up_ne (by omega), up_ne (by omega), e2, up_ne (by omega), up_ne (by omega), up_ne (by omega)]
        exact hb3 b b1 (by omega)
  have : Ok (d + 2) 85 [vr 62 0, vi n] σ PP := G_ok rfl (b_85_0 (d := d) ⟨fun _ => ⟨i0, loop1 3 0 σ rfl (Fm.rf σ) (fun b b1 b2 => by omega)⟩, fun q => absurd (show 0 ≤ n ∧ n ≤ 1 by omega) (ifR.1.mp q)⟩)
  obtain ⟨v, σ', h1, rfl, h2⟩ := this
  exact ⟨σ', h1, h2⟩
theorem ag_40 (a1 : Int) (_ : ir a1) : Agr Inv 40 85 [vi a1] := by
  intro k σ hk hI
  obtain ⟨T, hI⟩ := hI
  obtain ⟨hT, hB, hM, hch, h22, h15, h7, h8⟩ := id hI
  by_cases hn : 0 ≤ a1 ∧ a1 ≤ 1
  rotate_left
  · exact ⟨-2, σ, σ, G_rn rfl (b_40_0 (d := 6) ⟨fun q => absurd (ifR.2.mp q) hn, fun _ => ⟨rfl, rfl⟩⟩), G_rn rfl (b_85_0 (d := 7) ⟨fun q => absurd (ifR.2.mp q) hn, fun _ => ⟨rfl, rfl⟩⟩), Inv.step ⟨T, hI⟩, rfl, rfl⟩
  have hn' : a1 = 0 ∨ a1 = 1 := by omega
  obtain ⟨σ1, r1, r2, r3, r4⟩ := c_image (d := 5) hn' hB.1
  obtain ⟨σ2, m1, m2, m3, m4⟩ := m_image (d := 7) hn' (hM.keep r2 (fun t i j q => by omega))
  have e1 : ∀ (t : Nat) (i j : Int), t ≠ 33 → t ≠ 61 → t ≠ 35 → t < 62 → σ2 t i j = σ t i j := fun t i j h1 h2 h3 h4 => (m2 _ _ _ (by omega)).trans (r2 _ _ _ (by omega))
  have ff : Fm (fun t _ _ => t = 33 ∨ t = 61 ∨ t = 35 ∨ t = 89 ∨ t = 90) σ σ2 := (r2.mono fun t i j q => by omega).tr (m2.mono fun t i j q => by omega)
  have g1 : σ1 99 = σ 99 := f99t r2 (fun t i j q => by omega)
  refine ⟨1, σ1, σ2, r1, m1, ⟨T, hT, hB.keep ff (fun t i j q => by omega), hM.keep ff (fun t i j q => by omega), ?_, ?_, ?_, fun q => ?_, fun n hnn => ?_⟩, g1, (f99t m2 (fun t i j q => by omega)).trans g1⟩
  · rw [e1 2 _ _ (by omega) (by omega) (by omega) (by omega)]; omega
  · rw [e1 2 _ _ (by omega) (by omega) (by omega) (by omega), e1 2 _ _ (by omega) (by omega) (by omega) (by omega)]; exact h22
  · rw [e1 1 _ _ (by omega) (by omega) (by omega) (by omega), e1 2 _ _ (by omega) (by omega) (by omega) (by omega)]; exact h15
  · rw [e1 1 _ _ (by omega) (by omega) (by omega) (by omega), e1 2 _ _ (by omega) (by omega) (by omega) (by omega)] at q
    obtain ⟨z1, z2, z3⟩ := h7 q
    rw [e1 1 0 16 (by omega) (by omega) (by omega) (by omega), e1 1 0 17 (by omega) (by omega) (by omega) (by omega)]
    exact ⟨z1, z2.cong (fun j => e1 _ _ _ (by omega) (by omega) (by omega) (by omega)) (fun j => e1 _ _ _ (by omega) (by omega) (by omega) (by omega)), z3.cong (fun j => e1 _ _ _ (by omega) (by omega) (by omega) (by omega)) (fun j => e1 _ _ _ (by omega) (by omega) (by omega) (by omega))⟩
  · by_cases w : n = a1
    · subst w
      have k35 : σ2 35 0 n = 1 := (m2 _ _ _ (by omega)).trans r4
      rw [k35, m4]
      refine ⟨rfl, Or.inr ⟨rfl, T, hT, fun b hb => ?_, m3⟩⟩
      obtain ⟨y1, y2, y3, y4⟩ := r3 b hb
      rw [m2 _ _ _ (by omega), m2 _ _ _ (by omega), m2 _ _ _ (by omega)]
      exact ⟨y1, y2, y3, fun p p1 p2 => (m2 _ _ _ (by omega)).trans (y4 p p1 p2)⟩
    · obtain ⟨z1, z2⟩ := h8 n hnn
      have k35 : σ2 35 0 n = σ 35 0 n := (m2 _ _ _ (by omega)).trans (r2 _ _ _ (by omega))
      have k90 : σ2 90 0 n = σ 90 0 n := (m2 _ _ _ (by omega)).trans (r2 _ _ _ (by omega))
      rw [k35, k90]
      refine ⟨z1, z2.imp id fun ⟨a, T', t1, t2, t3⟩ => ⟨a, T', t1, fun b hb => ?_, fun b hb => ?_⟩⟩
      · obtain ⟨y1, y2, y3, y4⟩ := t2 b hb
        unfold isB at hb
        have e : ∀ (t : Nat) (j : Int), t = 33 ∨ t = 61 → σ2 t (3 * n + b) j = σ t (3 * n + b) j := fun t j ht => (m2 _ _ _ (by omega)).trans (r2 _ _ _ (by omega))
        rw [e _ _ (by omega), e _ _ (by omega), e _ _ (by omega)]
        exact ⟨y1, y2, y3, fun p p1 p2 => (e _ _ (by omega)).trans (y4 p p1 p2)⟩
      · obtain ⟨y1, y2, y3, y4⟩ := t3 b hb
        unfold isB at hb
        have e : ∀ j : Int, 130 * n ≤ j → j < 130 * n + 130 → σ2 89 0 j = σ 89 0 j := fun j j1 j2 => (m2 _ _ _ (by omega)).trans (r2 _ _ _ (by omega))
        rw [e _ (by omega) (by omega), e _ (by omega) (by omega), e _ (by omega) (by omega)]
        exact ⟨y1, y2, y3, fun p p1 p2 => (e _ (by omega) (by omega)).trans (y4 p p1 p2)⟩
end IMG
