/-! ===== agreement: touches ===== -/
def fA (T : TP) (b : Int) (nu : Nat → Int) (ef : Int → Int) (r l : Int) (p : Nat) : Bool := if l = 0 then toB T b nu p r else if l = 1 then doB T b nu ef p r false else doB T b nu ef p r true
theorem V4_nn {x : Int} (h : V4 x) : 0 ≤ x := by
  obtain ⟨x1, x2, x3, x4, rfl⟩ := h
  exact (e4_rng x1 x2 x3 x4).1
theorem ag_36 (a1 a2 a3 : Int) (_ : ir a1) (_ : ir a2) (_ : ir a3) : Agr Inv 36 71 [vi a1, vi a2, vi a3] := by
  intro k σ hk hI
  obtain ⟨T, hI⟩ := hI
  by_cases hb : isB a1
  rotate_left
  · exact ⟨-1, σ, σ, G_rn rfl (b_36_0 (d := 2) ⟨none, σ, s_15n hb, b_36_4n ⟨rfl, rfl⟩⟩), G_rn rfl (b_71_0 (d := 2) ⟨fun q => absurd (ifB.2.mp q) hb, fun _ => ⟨rfl, rfl⟩⟩), Inv.step ⟨T, hI⟩, rfl, rfl⟩
  by_cases h2 : 0 ≤ a2 ∧ a2 ≤ 99
  rotate_left
  · exact ⟨-2, σ, σ, G_rn rfl (b_36_0 (d := 2) ⟨some (4, a1), σ, s_15 hb, b_36_4r ⟨fun _ => ⟨rfl, rfl⟩, fun q => absurd (ifR.2.mp q) h2⟩⟩), G_rn rfl (b_71_0 (d := 2) ⟨fun _ => ⟨fun _ => ⟨rfl, rfl⟩, fun q => absurd (ifR.2.mp q) h2⟩, fun q => absurd hb (ifB.1.mp q)⟩), Inv.step ⟨T, hI⟩, rfl, rfl⟩
  by_cases h3 : 0 ≤ a3 ∧ a3 ≤ 2
  rotate_left
  · exact ⟨-2, σ, σ, G_rn rfl (b_36_0 (d := 2) ⟨some (4, a1), σ, s_15 hb, b_36_4r ⟨fun q => absurd h2 (ifR.1.mp q), fun _ => ⟨fun q => absurd (ifR.2.mp q) h3, fun _ => ⟨rfl, rfl⟩⟩⟩⟩), G_rn rfl (b_71_0 (d := 2) ⟨fun _ => ⟨fun q => absurd h2 (ifR.1.mp q), fun _ => ⟨fun q => absurd (ifR.2.mp q) h3, fun _ => ⟨rfl, rfl⟩⟩⟩, fun q => absurd hb (ifB.1.mp q)⟩), Inv.step ⟨T, hI⟩, rfl, rfl⟩
  have hb' := hb
  unfold isB at hb'
  obtain ⟨w, σ1, σ2, r1, r2, k1, k2, g1, g2, hF, hs⟩ := both_set hI
  have i40 : ir (40 * a1) := irI (by omega) (by omega)
  rcases hs with ⟨hw, hL, hMW, hML⟩ | hw
  rotate_left
  · exact ⟨-5, σ1, σ2, G_rn rfl (b_36_0 (d := 2) ⟨some (4, a1), σ, s_15 hb, b_36_4r ⟨fun q => absurd h2 (ifR.1.mp q), fun _ => ⟨fun _ => ⟨w, σ1, r1, fun q => absurd hw q, fun _ => ⟨rfl, rfl⟩⟩, fun q => absurd h3 (ifR.1.mp q)⟩⟩⟩), G_rn rfl (b_71_0 (d := 2) ⟨fun _ => ⟨fun q => absurd h2 (ifR.1.mp q), fun _ => ⟨fun _ => ⟨w, σ2, r2, fun q => absurd hw q, fun _ => ⟨rfl, rfl⟩⟩, fun q => absurd h3 (ifR.1.mp q)⟩⟩, fun q => absurd hb (ifB.1.mp q)⟩), Inv.step ⟨T, k2⟩, g1, g2⟩
  obtain ⟨e77, e74⟩ := ef_eq hL hML
  obtain ⟨hT, hW, hCW, hP, hE, hLb⟩ := hL
  have hn := (hT a1 hb).1
  have hg := (hW a1 hb).1
  have hEc : ∀ c, isB c → 0 ≤ efF σ1 c := fun c hc => V4_nn (hE.1.1 c hc)
  have hEm : ∀ c, isB c → 0 ≤ efM σ2 c := fun c hc => V4_nn (hML.2.1.1.1 c hc)
  have hN := (hLb a1 hb).2.1
  have e61 := (hCW.1 a1 hb).1
  have e65 := (hMW.1 a1 hb).1
  obtain ⟨f, ef⟩ : ∃ f, f = fA T a1 (nuF σ1 a1) (efF σ1) a2 a3 := ⟨_, rfl⟩
  have fm : ∀ p, p < tN T a1 → fA T a1 (nuM σ2 a1) (efM σ2) a2 a3 p = f p := fun p hp => by
    rw [ef]
    unfold fA
    rw [to_cong hg (e74 a1 hb) hp, do_cong (e := efM σ2) (e' := efF σ1) (lk := false) hg (e74 a1 hb) e77 hp, do_cong (e := efM σ2) (e' := efF σ1) (lk := true) hg (e74 a1 hb) e77 hp]
  obtain ⟨x, ex⟩ : ∃ x : Int, x = cntA f (tN T a1) := ⟨_, rfl⟩
  have hs1 : ∀ j, cntA f (j + 1) = cntA f j + (if f j = true then 1 else 0) := fun j => rfl
  have cl : ∀ (m j : Nat), j + m = tN T a1 → G (4 + 3) (fun v s => v = vi x ∧ s = σ1) 97 4 [vr 4 a1, vr 2 0, vi a2, vi a3, vi (cntA f j : Int), vi (j : Int), vu] [] σ1 := by
    intro m
    induction m with
    | zero =>
      intro j hj
      obtain rfl : j = tN T a1 := by omega
      exact b_97_4 ⟨fun _ => ⟨by rw [ex], rfl⟩, fun q => absurd q (by rw [e61]; omega)⟩
    | succ m ih =>
      intro j hj
      have ih' := ih (j + 1) (by omega)
      have hp : j < tN T a1 := by omega
      have hc40 : cntA f j ≤ j := cnt_le _ _
      have cont : ∀ y : Int, y = (if f j = true then 1 else 0) → ((y = 0 → (ir ((cntA f j : Int) + 0) ∧ (ir ((j : Int) + 1) ∧ G (4 + 3) (fun v s => v = vi x ∧ s = σ1) 97 4 [vr 4 a1, vr 2 0, vi a2, vi a3, vi ((cntA f j : Int) + 0), vi ((j : Int) + 1), vu] [] σ1))) ∧ (y ≠ 0 → (ir ((cntA f j : Int) + 1) ∧ (ir ((j : Int) + 1) ∧ G (4 + 3) (fun v s => v = vi x ∧ s = σ1) 97 4 [vr 4 a1, vr 2 0, vi a2, vi a3, vi ((cntA f j : Int) + 1), vi ((j : Int) + 1), vu] [] σ1)))) := fun y hy => by
        rw [hs1] at ih'
        by_cases z : f j = true
        · rw [if_pos z] at hy ih'
          exact ⟨fun q => absurd q (by omega), fun _ => ⟨irI (by omega) (by omega), irI (by omega) (by omega), ih'⟩⟩
        · rw [if_neg z] at hy ih'
          exact ⟨fun _ => ⟨irI (by omega) (by omega), irI (by omega) (by omega), by rw [Int.add_zero]; exact ih'⟩, fun q => absurd hy q⟩
      refine b_97_4 ⟨fun q => absurd q (by rw [e61]; omega), fun _ => ⟨fun q0 => ⟨fun q1 => ⟨_, σ1, c_looks (d := 4) hT hW hb hCW hN hEc hp h2.1, cont _ ?_⟩, fun q1 => ⟨_, σ1, c_puts (d := 4) hT hW hb hCW hN hEc hp h2.1, cont _ ?_⟩⟩, fun q0 => ⟨_, σ1, c_touch (d := 5) hT hW hb hCW hN hp h2.1, cont _ ?_⟩⟩⟩
      · rw [ef]; unfold fA; rw [if_neg q0, if_neg q1]
      · rw [ef]; unfold fA; rw [if_neg q0, if_pos q1]
      · rw [ef]; unfold fA; rw [if_pos q0]
  have ml : ∀ (m j : Nat), j + m = tN T a1 → G (2 + 6) (fun v s => v = vi x ∧ s = σ2) 71 28 [vr 62 0, vi a1, vi a2, vi a3, vi (cntA f j : Int), vi (40 * a1 + (j : Int))] [] σ2 := by
    intro m
    induction m with
    | zero =>
      intro j hj
      obtain rfl : j = tN T a1 := by omega
      exact b_71_28 ⟨i40, hb', by rw [e65]; exact irI (by omega) (by omega), fun _ => ⟨by rw [ex], rfl⟩, fun q => absurd q (by rw [e65]; omega)⟩
    | succ m ih =>
      intro j hj
      have ih' := ih (j + 1) (by omega)
      have hp : j < tN T a1 := by omega
      have hc40 : cntA f j ≤ j := cnt_le _ _
      have cont : ∀ y : Int, y = (if f j = true then 1 else 0) → ((y = 0 → (ir ((cntA f j : Int) + 0) ∧ (ir (40 * a1 + (j : Int) + 1) ∧ G (2 + 6) (fun v s => v = vi x ∧ s = σ2) 71 28 [vr 62 0, vi a1, vi a2, vi a3, vi ((cntA f j : Int) + 0), vi (40 * a1 + (j : Int) + 1)] [] σ2))) ∧ (y ≠ 0 → (ir ((cntA f j : Int) + 1) ∧ (ir (40 * a1 + (j : Int) + 1) ∧ G (2 + 6) (fun v s => v = vi x ∧ s = σ2) 71 28 [vr 62 0, vi a1, vi a2, vi a3, vi ((cntA f j : Int) + 1), vi (40 * a1 + (j : Int) + 1)] [] σ2)))) := fun y hy => by
        rw [hs1, show 40 * a1 + ((j + 1 : Nat) : Int) = 40 * a1 + (j : Int) + 1 by omega] at ih'
        by_cases z : f j = true
        · rw [if_pos z] at hy ih'
          exact ⟨fun q => absurd q (by omega), fun _ => ⟨irI (by omega) (by omega), irI (by omega) (by omega), ih'⟩⟩
        · rw [if_neg z] at hy ih'
          exact ⟨fun _ => ⟨irI (by omega) (by omega), irI (by omega) (by omega), by rw [Int.add_zero]; exact ih'⟩, fun q => absurd hy q⟩
      have hfm := fm j hp
      refine b_71_28 ⟨i40, hb', by rw [e65]; exact irI (by omega) (by omega), fun q => absurd q (by rw [e65]; omega), fun _ => ⟨fun q0 => ⟨fun q1 => ⟨_, σ2, m_does (d := 6) (lk := false) hT hW hb hMW hEm hp, cont _ ?_⟩, fun q1 => ⟨_, σ2, m_does (d := 6) (lk := true) hT hW hb hMW hEm hp, cont _ ?_⟩⟩, fun q0 => ⟨_, σ2, m_touch (d := 7) hT hW hb hMW hp, cont _ ?_⟩⟩⟩
      · have q3 : a3 = 1 := by omega
        rw [← hfm]; unfold fA; rw [if_neg q0, if_pos q3]
      · have q3 : a3 ≠ 1 := by omega
        rw [← hfm]; unfold fA; rw [if_neg q0, if_neg q3]
      · rw [← hfm]; unfold fA; rw [if_pos q0]
  have c97 : Rn 8 97 [vr 4 a1, vr 2 0, vi a2, vi a3] σ1 (vi x) σ1 := G_rn rfl (b_97_0 (d := 4) (cl (tN T a1) 0 (by omega)))
  have m28 := ml (tN T a1) 0 (by omega)
  rw [show 40 * a1 + ((0 : Nat) : Int) = 40 * a1 from Int.add_zero _] at m28
  exact ⟨x, σ1, σ2, G_rn rfl (b_36_0 (d := 2) ⟨some (4, a1), σ, s_15 hb, b_36_4r ⟨fun q => absurd h2 (ifR.1.mp q), fun _ => ⟨fun _ => ⟨w, σ1, r1, fun _ => ⟨x, σ1, c97, rfl, rfl⟩, fun q => absurd q (by omega)⟩, fun q => absurd h3 (ifR.1.mp q)⟩⟩⟩), G_rn rfl (b_71_0 (d := 2) ⟨fun _ => ⟨fun q => absurd h2 (ifR.1.mp q), fun _ => ⟨fun _ => ⟨w, σ2, r2, fun _ => ⟨i40, m28⟩, fun q => absurd q (by omega)⟩, fun q => absurd h3 (ifR.1.mp q)⟩⟩, fun q => absurd hb (ifB.1.mp q)⟩), Inv.step ⟨T, k2⟩, g1, g2⟩
