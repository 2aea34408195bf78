/-! ===== agreement: run, words ===== -/
theorem c_refuse {T : TP} {k : Nat} {σ : SS} (hI : InvT T k σ) (a1 a2 fl : Int) : ∃ x σ1, Rn 8 45 [vr 0 0, vi a1, vi a2, vi fl] σ (vi x) σ1 ∧ InvT T k σ1 ∧ σ1 99 = σ 99 ∧
    ((¬ isB a1 ∧ x = -1) ∨ (isB a1 ∧ (¬ (0 ≤ a2 ∧ a2 ≤ 999) ∨ fl = 0) ∧ x = -2) ∨ (isB a1 ∧ (0 ≤ a2 ∧ a2 ≤ 999) ∧ fl ≠ 0 ∧ ¬ welA T ∧ x = -5) ∨ (isB a1 ∧ (0 ≤ a2 ∧ a2 ≤ 999) ∧ fl ≠ 0 ∧ welA T ∧ RunM T 1 a1 a2 σ1 ∧ RunC σ1 ∧ ((σ1 1 0 14 = 0 ∧ x = -3) ∨ (σ1 1 0 14 = 1 ∧ x = 0)))) := by
  by_cases hb : isB a1
  rotate_left
  · exact ⟨-1, σ, G_rn rfl (b_45_0 (d := 1) ⟨none, σ, s_15n hb, b_45_4n ⟨rfl, rfl⟩⟩), hI, rfl, Or.inl ⟨hb, rfl⟩⟩
  by_cases hn : 0 ≤ a2 ∧ a2 ≤ 999
  rotate_left
  · exact ⟨-2, σ, G_rn rfl (b_45_0 (d := 1) ⟨some (4, a1), σ, s_15 hb, b_45_4r ⟨fun _ => ⟨rfl, rfl⟩, fun q => absurd (ifR.2.mp q) hn⟩⟩), hI, rfl, Or.inr (Or.inl ⟨hb, Or.inl hn, rfl⟩)⟩
  by_cases hf : fl = 0
  · exact ⟨-2, σ, G_rn rfl (b_45_0 (d := 1) ⟨some (4, a1), σ, s_15 hb, b_45_4r ⟨fun q => absurd hn (ifR.1.mp q), fun _ => ⟨fun q => absurd hf q, fun _ => ⟨rfl, rfl⟩⟩⟩⟩), hI, rfl, Or.inr (Or.inl ⟨hb, Or.inr hf, rfl⟩)⟩
  obtain ⟨w, σ1, r1, r2, r3, r4⟩ := hI.settle (d := 1)
  have g1 : σ1 99 = σ 99 := f99 r2 (fun i j q => by unfold Cse at q; omega)
  rcases r4 with ⟨hw, hW, hL⟩ | ⟨hw, hW⟩
  rotate_left
  · exact ⟨-5, σ1, G_rn rfl (b_45_0 (d := 1) ⟨some (4, a1), σ, s_15 hb, b_45_4r ⟨fun q => absurd hn (ifR.1.mp q), fun _ => ⟨fun _ => ⟨w, σ1, r1, fun q => absurd hw q, fun _ => ⟨rfl, rfl⟩⟩, fun q => absurd q hf⟩⟩⟩), r3, g1, Or.inr (Or.inr (Or.inl ⟨hb, hn, hf, hW, rfl⟩))⟩
  -- known or gone through
  have key : ∃ σ2, Rn 7 114 [vr 1 0, vi a1, vi a2] σ1 (vi (σ2 1 0 14)) σ2 ∧ InvT T k σ2 ∧ σ2 99 = σ1 99 ∧ RunM T 1 a1 a2 σ2 ∧ RunC σ2 := by
    obtain ⟨h1, h2, h3, h4, h5, h6, h7, h8⟩ := id r3
    have new : (∀ {P : AV → SS → Prop}, G (1 + 5) P 114 17 [vr 1 0, vi a1, vi a2, vu, vu] [] σ1 → G (1 + 5) P 114 0 [vr 1 0, vi a1, vi a2, vu, vu] [] σ1) → ∃ σ2, Rn 7 114 [vr 1 0, vi a1, vi a2] σ1 (vi (σ2 1 0 14)) σ2 ∧ InvT T k σ2 ∧ σ2 99 = σ1 99 ∧ RunM T 1 a1 a2 σ2 ∧ RunC σ2 := by
      intro hst
      obtain ⟨σ2, u1, u2, u3, u4, u5, u6, u7⟩ := run_new (d := 1) (d' := 1) hL hb hn
      have e2 : ∀ j, σ2 2 0 j = σ1 2 0 j := fun j => u2 _ _ _ (by unfold Crun; omega)
      refine ⟨σ2, G_rn rfl (hst (u1 ⟨rfl, rfl⟩)), ⟨h1, h2.keep u2 (fun t i j q => by unfold Crun at q; omega), h3.keep u2 (fun t i j q => by unfold Crun at q; omega), by rw [e2]; exact h4, by rw [e2, e2]; exact h5, by rw [u3, e2]; exact Int.le_refl _, fun _ => ⟨hW, by rw [u4, u5]; exact u6, u7⟩, h8.keep u2 (fun t i j q => by unfold Crun at q; omega)⟩, f99 u2 (fun i j q => by unfold Crun at q; omega), u6, u7⟩
    by_cases q1 : σ1 1 0 15 = σ1 2 0 1
    rotate_left
    · exact new fun hG => b_114x_0 ⟨fun _ => hG, fun q => absurd q q1⟩
    by_cases q2 : σ1 1 0 16 = a1
    rotate_left
    · exact new fun hG => b_114x_0 ⟨fun _ => hG, fun _ => ⟨fun _ => hG, fun q => absurd q q2⟩⟩
    by_cases q3 : σ1 1 0 17 = a2
    rotate_left
    · exact new fun hG => b_114x_0 ⟨fun _ => hG, fun _ => ⟨fun _ => hG, fun _ => ⟨fun _ => hG, fun q => absurd q q3⟩⟩⟩
    obtain ⟨-, c2, c3⟩ := h7 q1
    rw [q2, q3] at c2
    exact ⟨σ1, G_rn rfl (b_114x_0 (d := 1) ⟨fun q => absurd q1 q, fun _ => ⟨fun q => absurd q2 q, fun _ => ⟨fun q => absurd q3 q, fun _ => ⟨c3.1, rfl, rfl⟩⟩⟩⟩), r3, rfl, c2, c3⟩
  obtain ⟨σ2, k1, k2, k3, k4, k5⟩ := key
  have run : ∀ x, (σ2 1 0 14 = 0 → x = -3) → (σ2 1 0 14 = 1 → x = 0) → Rn 8 45 [vr 0 0, vi a1, vi a2, vi fl] σ (vi x) σ2 := fun x x1 x2 =>
    G_rn rfl (b_45_0 (d := 1) ⟨some (4, a1), σ, s_15 hb, b_45_4r ⟨fun q => absurd hn (ifR.1.mp q), fun _ => ⟨fun _ => ⟨w, σ1, r1, fun _ => ⟨_, σ2, k1, fun q => ⟨by rw [x1 q], rfl⟩, fun q => ⟨by rw [x2 (k5.1.resolve_left q)], rfl⟩⟩, fun q => absurd q (by omega)⟩, fun q => absurd q hf⟩⟩⟩)
  rcases k5.1 with z | z
  · exact ⟨-3, σ2, run (-3) (fun _ => rfl) (fun q => by omega), k2, k3.trans g1, Or.inr (Or.inr (Or.inr ⟨hb, hn, hf, hW, k4, k5, Or.inl ⟨z, rfl⟩⟩))⟩
  · exact ⟨0, σ2, run 0 (fun q => by omega) (fun _ => rfl), k2, k3.trans g1, Or.inr (Or.inr (Or.inr ⟨hb, hn, hf, hW, k4, k5, Or.inr ⟨z, rfl⟩⟩))⟩
/-- the model's run where the program is not well -/
theorem m_notwell {T : TP} {k : Nat} {σ : SS} (hI : InvT T k σ) (hW : ¬ welA T) (a1 a2 : Int) : ∃ σ2, Rn 8 81 [vr 62 0, vi a1, vi a2] σ (vi (-5)) σ2 ∧ InvT T k σ2 ∧ σ2 99 = σ 99 := by
  obtain ⟨hT, -, hM, -⟩ := id hI
  obtain ⟨w, σ2, m1, m2, m3⟩ := m_lay (d := 1) hT hM
  rcases m3 with ⟨-, hW', -⟩ | ⟨hw, -⟩
  · exact absurd hW' hW
  · exact ⟨σ2, G_rn rfl (b_81x_0 (d := 1) ⟨w, σ2, m1, fun q => absurd hw q, fun _ => ⟨rfl, rfl⟩⟩), hI.keepM m2 (fun t i j q => by unfold Cly at q; omega), f99 m2 (fun i j q => by unfold Cly at q; omega)⟩
theorem cmr99 {σ σ' : SS} (h : Fm Cmr σ σ') : σ' 99 = σ 99 := f99 h (fun i j q => by unfold Cmr at q; omega)
/-- run -/
theorem ag_37 (a1 a2 a3 : Int) (_ : ir a1) (_ : ir a2) (_ : ir a3) : Agr Inv 37 82 [vi a1, vi a2, vi a3] := by
  intro k σ hk hI
  obtain ⟨T, hI⟩ := hI
  obtain ⟨x, σ1, r1, r2, r3, r4⟩ := c_refuse hI a1 a2 (if (0 : Int) ≤ a3 ∧ a3 ≤ 7 then (1 : Int) else 0)
  have cx : x ≠ 0 → Rn 9 37 [vr 0 0, vi a1, vi a2, vi a3] σ (vi x) σ1 := fun q => G_rn rfl (b_37_0 (d := 1) ⟨x, σ1, r1, fun _ => ⟨rfl, rfl⟩, fun w => absurd w q⟩)
  rcases r4 with ⟨hb, rfl⟩ | ⟨hb, h, rfl⟩ | ⟨hb, hn, hf, hW, rfl⟩ | ⟨hb, hn, hf, hW, hM, hC, h⟩
  · exact ⟨-1, σ1, σ1, cx (by decide), G_rn rfl (b_82_0 (d := 1) ⟨fun q => absurd (ifB.2.mp q) hb, fun _ => ⟨rfl, rfl⟩⟩), Inv.step ⟨T, r2⟩, r3, r3⟩
  · refine ⟨-2, σ1, σ1, cx (by decide), G_rn rfl (b_82_0 (d := 1) ⟨fun _ => ⟨fun q => ⟨rfl, rfl⟩, fun q => ⟨fun w => ?_, fun _ => ⟨rfl, rfl⟩⟩⟩, fun q => absurd hb (ifB.1.mp q)⟩), Inv.step ⟨T, r2⟩, r3, r3⟩
    rcases h with h | h
    · exact absurd (ifR.2.mp q) h
    · exact absurd h w
  · obtain ⟨σ2, m1, m2, m3⟩ := m_notwell r2 hW a1 a2
    exact ⟨-5, σ1, σ2, cx (by decide), G_rn rfl (b_82_0 (d := 1) ⟨fun _ => ⟨fun q => absurd hn (ifR.1.mp q), fun _ => ⟨fun _ => ⟨-5, σ2, m1, fun q => absurd q (by decide), fun _ => ⟨rfl, rfl⟩⟩, fun q => absurd q hf⟩⟩, fun q => absurd hb (ifB.1.mp q)⟩), Inv.step ⟨T, m2⟩, r3, m3.trans r3⟩
  · obtain ⟨v, σ2, m1, m2, m3⟩ := hM σ1 r2.2.2.1
    have hI2 : Inv (k + 1) σ2 := Inv.step ⟨T, r2.keepM m2 (fun t i j q => by unfold Cmr at q; omega)⟩
    have g2 : σ2 99 = σ 99 := (cmr99 m2).trans r3
    rcases h with ⟨z, rfl⟩ | ⟨z, rfl⟩ <;> rcases m3 with ⟨z', hv, u30, u31, u33, u34, u35, u36, u37, u39, u40, uV, uN⟩ | ⟨z', hv⟩
    · omega
    · exact ⟨-3, σ1, σ2, cx (by decide), G_rn rfl (b_82_0 (d := 1) ⟨fun _ => ⟨fun q => absurd hn (ifR.1.mp q), fun _ => ⟨fun _ => ⟨v, σ2, m1, fun q => absurd q (by omega), fun _ => ⟨by rw [hv], rfl⟩⟩, fun q => absurd q hf⟩⟩, fun q => absurd hb (ifB.1.mp q)⟩), hI2, r3, g2⟩
    · have h07 := ifR.2.mp hf
      obtain ⟨-, -, m64, -⟩ := r2.2.2.1 a1 hb
      have e64 : σ2 64 0 a1 = tV T a1 := (m2 _ _ _ (by unfold Cmr; omega)).trans m64
      have fin : ∀ y, (a3 = 0 → y = σ1 1 0 11) → (a3 = 1 → y = σ1 1 0 12) → (a3 = 2 → y = σ1 32 0 6) → (a3 = 3 → y = σ1 32 0 7) → (a3 = 4 → y = σ1 32 0 8) → (a3 = 5 → y = σ1 32 0 9) → (a3 = 6 → y = σ1 32 0 10) → (a3 = 7 → y = σ1 1 0 13) → ∃ x σ1 σ2, Rn 9 37 [vr 0 0, vi a1, vi a2, vi a3] σ (vi x) σ1 ∧ Rn 9 82 [vr 62 0, vi a1, vi a2, vi a3] σ1 (vi x) σ2 ∧ Inv (k + 1) σ2 ∧ σ1 99 = σ 99 ∧ σ2 99 = σ 99 := by
        intro y y0 y1 y2 y3 y4 y5 y6 y7
        have t113 : Rn 8 113 [vr 1 0, vi a3] σ1 (vi y) σ1 := G_rn rfl (b_113_0 (d := 7) ⟨fun q => ⟨by rw [y7 (by omega)], rfl⟩, fun q => ⟨by rw [y0 q], rfl⟩, fun q => ⟨by rw [y1 (by omega)], rfl⟩, fun q => ⟨by rw [y2 (by omega)], rfl⟩, fun q => ⟨by rw [y3 (by omega)], rfl⟩, fun q => ⟨by rw [y4 (by omega)], rfl⟩, fun q => ⟨by rw [y5 (by omega)], rfl⟩, fun q => ⟨by rw [y6 (by omega)], rfl⟩, trivial⟩)
        have hb' := hb
        unfold isB at hb'
        refine ⟨y, σ1, σ2, G_rn rfl (b_37_0 (d := 1) ⟨0, σ1, r1, fun q => absurd rfl q, fun _ => ⟨y, σ1, t113, rfl, rfl⟩⟩), G_rn rfl (b_82_0 (d := 1) ⟨fun _ => ⟨fun q => absurd hn (ifR.1.mp q), fun _ => ⟨fun _ => ⟨v, σ2, m1, fun _ => ?_, fun q => absurd q (by omega)⟩, fun q => absurd q hf⟩⟩, fun q => absurd hb (ifB.1.mp q)⟩), hI2, r3, g2⟩
        refine ⟨fun q => ⟨fun w => ⟨by rw [u37, y7 (by omega)], rfl⟩, fun w => ⟨by rw [u36, y6 w], rfl⟩⟩, fun q => ⟨by omega, fun w => ⟨by rw [uN (by rw [← e64]; exact w), y0 q], rfl⟩, fun w => ?_⟩, fun q => ⟨by rw [u30, y1 (by omega)], rfl⟩, fun q => ⟨by rw [u31, y2 (by omega)], rfl⟩, fun q => ⟨by rw [u33, y3 (by omega)], rfl⟩, fun q => ⟨by rw [u34, y4 (by omega)], rfl⟩, fun q => ⟨by rw [u35, y5 (by omega)], rfl⟩, trivial⟩
        obtain ⟨v1, v2⟩ := uV (by rw [← e64]; exact w)
        exact ⟨v1, by rw [v2, y0 q], rfl⟩
      rcases (show a3 = 0 ∨ a3 = 1 ∨ a3 = 2 ∨ a3 = 3 ∨ a3 = 4 ∨ a3 = 5 ∨ a3 = 6 ∨ a3 = 7 by omega) with q | q | q | q | q | q | q | q
      · exact fin (σ1 1 0 11) (fun _ => rfl) (fun w => by omega) (fun w => by omega) (fun w => by omega) (fun w => by omega) (fun w => by omega) (fun w => by omega) (fun w => by omega)
      · exact fin (σ1 1 0 12) (fun w => by omega) (fun _ => rfl) (fun w => by omega) (fun w => by omega) (fun w => by omega) (fun w => by omega) (fun w => by omega) (fun w => by omega)
      · exact fin (σ1 32 0 6) (fun w => by omega) (fun w => by omega) (fun _ => rfl) (fun w => by omega) (fun w => by omega) (fun w => by omega) (fun w => by omega) (fun w => by omega)
      · exact fin (σ1 32 0 7) (fun w => by omega) (fun w => by omega) (fun w => by omega) (fun _ => rfl) (fun w => by omega) (fun w => by omega) (fun w => by omega) (fun w => by omega)
      · exact fin (σ1 32 0 8) (fun w => by omega) (fun w => by omega) (fun w => by omega) (fun w => by omega) (fun _ => rfl) (fun w => by omega) (fun w => by omega) (fun w => by omega)
      · exact fin (σ1 32 0 9) (fun w => by omega) (fun w => by omega) (fun w => by omega) (fun w => by omega) (fun w => by omega) (fun _ => rfl) (fun w => by omega) (fun w => by omega)
      · exact fin (σ1 32 0 10) (fun w => by omega) (fun w => by omega) (fun w => by omega) (fun w => by omega) (fun w => by omega) (fun w => by omega) (fun _ => rfl) (fun w => by omega)
      · exact fin (σ1 1 0 13) (fun w => by omega) (fun w => by omega) (fun w => by omega) (fun w => by omega) (fun w => by omega) (fun w => by omega) (fun w => by omega) (fun _ => rfl)
    · omega
/-- words -/
theorem ag_38 (a1 a2 a3 : Int) (_ : ir a1) (_ : ir a2) (_ : ir a3) : Agr Inv 38 83 [vi a1, vi a2, vi a3] := by
  intro k σ hk hI
  obtain ⟨T, hI⟩ := hI
  obtain ⟨x, σ1, r1, r2, r3, r4⟩ := c_refuse hI a1 a2 (if (0 : Int) ≤ a3 ∧ a3 ≤ 1 then (1 : Int) else 0)
  have cx : x ≠ 0 → Rn 9 38 [vr 0 0, vi a1, vi a2, vi a3] σ (vi x) σ1 := fun q => G_rn rfl (b_38_0 (d := 1) ⟨x, σ1, r1, fun w => absurd w q, fun _ => ⟨rfl, rfl⟩⟩)
  rcases r4 with ⟨hb, rfl⟩ | ⟨hb, h, rfl⟩ | ⟨hb, hn, hf, hW, rfl⟩ | ⟨hb, hn, hf, hW, hM, hC, h⟩
  · exact ⟨-1, σ1, σ1, cx (by decide), G_rn rfl (b_83_0 (d := 1) ⟨fun q => absurd (ifB.2.mp q) hb, fun _ => ⟨rfl, rfl⟩⟩), Inv.step ⟨T, r2⟩, r3, r3⟩
  · refine ⟨-2, σ1, σ1, cx (by decide), G_rn rfl (b_83_0 (d := 1) ⟨fun _ => ⟨fun q => ⟨rfl, rfl⟩, fun q => ⟨fun w => ?_, fun _ => ⟨rfl, rfl⟩⟩⟩, fun q => absurd hb (ifB.1.mp q)⟩), Inv.step ⟨T, r2⟩, r3, r3⟩
    rcases h with h | h
    · exact absurd (ifR.2.mp q) h
    · exact absurd h w
  · obtain ⟨σ2, m1, m2, m3⟩ := m_notwell r2 hW a1 a2
    exact ⟨-5, σ1, σ2, cx (by decide), G_rn rfl (b_83_0 (d := 1) ⟨fun _ => ⟨fun q => absurd hn (ifR.1.mp q), fun _ => ⟨fun _ => ⟨-5, σ2, m1, fun q => absurd q (by decide), fun _ => ⟨rfl, rfl⟩⟩, fun q => absurd q hf⟩⟩, fun q => absurd hb (ifB.1.mp q)⟩), Inv.step ⟨T, m2⟩, r3, m3.trans r3⟩
  · obtain ⟨v, σ2, m1, m2, m3⟩ := hM σ1 r2.2.2.1
    have hI2 : Inv (k + 1) σ2 := Inv.step ⟨T, r2.keepM m2 (fun t i j q => by unfold Cmr at q; omega)⟩
    have g2 : σ2 99 = σ 99 := (cmr99 m2).trans r3
    rcases h with ⟨z, rfl⟩ | ⟨z, rfl⟩ <;> rcases m3 with ⟨z', hv, u30, u31, u33, u34, u35, u36, u37, u39, u40, uV, uN⟩ | ⟨z', hv⟩
    · omega
    · exact ⟨-3, σ1, σ2, cx (by decide), G_rn rfl (b_83_0 (d := 1) ⟨fun _ => ⟨fun q => absurd hn (ifR.1.mp q), fun _ => ⟨fun _ => ⟨v, σ2, m1, fun q => absurd q (by omega), fun _ => ⟨by rw [hv], rfl⟩⟩, fun q => absurd q hf⟩⟩, fun q => absurd hb (ifB.1.mp q)⟩), hI2, r3, g2⟩
    · by_cases q : a3 = 0
      · exact ⟨σ1 32 0 11, σ1, σ2, G_rn rfl (b_38_0 (d := 1) ⟨0, σ1, r1, fun _ => ⟨fun w => absurd q w, fun _ => ⟨rfl, rfl⟩⟩, fun w => absurd rfl w⟩), G_rn rfl (b_83_0 (d := 1) ⟨fun _ => ⟨fun q => absurd hn (ifR.1.mp q), fun _ => ⟨fun _ => ⟨v, σ2, m1, fun _ => ⟨fun w => absurd q w, fun _ => ⟨by rw [u39], rfl⟩⟩, fun q => absurd q (by omega)⟩, fun q => absurd q hf⟩⟩, fun q => absurd hb (ifB.1.mp q)⟩), hI2, r3, g2⟩
      · exact ⟨σ1 32 0 12, σ1, σ2, G_rn rfl (b_38_0 (d := 1) ⟨0, σ1, r1, fun _ => ⟨fun _ => ⟨rfl, rfl⟩, fun w => absurd w q⟩, fun w => absurd rfl w⟩), G_rn rfl (b_83_0 (d := 1) ⟨fun _ => ⟨fun q => absurd hn (ifR.1.mp q), fun _ => ⟨fun _ => ⟨v, σ2, m1, fun _ => ⟨fun _ => ⟨by rw [u40], rfl⟩, fun w => absurd w q⟩, fun q => absurd q (by omega)⟩, fun q => absurd q hf⟩⟩, fun q => absurd hb (ifB.1.mp q)⟩), hI2, r3, g2⟩
    · omega
