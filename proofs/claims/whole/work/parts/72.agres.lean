/-! ===== agreement: restore ===== -/
def TJ (T T' : TP) (k : Int) : TP := (fun b => if b < k then tS T' b else tS T b, fun b => if b < k then tN T' b else tN T b, fun b => if b < k then tG T' b else tG T b, fun b => if b < k then tV T' b else tV T b)
theorem TJ_lo {T T' : TP} {k b : Int} (h : b < k) : tS (TJ T T' k) b = tS T' b ∧ tN (TJ T T' k) b = tN T' b ∧ tG (TJ T T' k) b = tG T' b ∧ tV (TJ T T' k) b = tV T' b := ⟨if_pos h, if_pos h, if_pos h, if_pos h⟩
theorem TJ_hi {T T' : TP} {k b : Int} (h : ¬ b < k) : tS (TJ T T' k) b = tS T b ∧ tN (TJ T T' k) b = tN T b ∧ tG (TJ T T' k) b = tG T b ∧ tV (TJ T T' k) b = tV T b := ⟨if_neg h, if_neg h, if_neg h, if_neg h⟩
theorem TJ_ok {T T' : TP} (h : TOKA T) (h' : TOKA T') (k : Int) : TOKA (TJ T T' k) := fun b hb => by
  by_cases w : b < k
  · obtain ⟨e1, e2, e3, e4⟩ := TJ_lo (T := T) (T' := T') w
    rw [e1, e2, e3, e4]; exact h' b hb
  · obtain ⟨e1, e2, e3, e4⟩ := TJ_hi (T := T) (T' := T') w
    rw [e1, e2, e3, e4]; exact h b hb
theorem CTx.cong {T T' : TP} {σ : SS} (h : CTx T σ) (e : ∀ b, isB b → tS T' b = tS T b ∧ tN T' b = tN T b ∧ tG T' b = tG T b ∧ tV T' b = tV T b) : CTx T' σ := fun b hb => by
  obtain ⟨e1, e2, e3, e4⟩ := e b hb
  rw [e1, e2, e3, e4]; exact h b hb
theorem CTT.cong {T T' : TP} {σ : SS} (h : CTT T σ) (e : ∀ b, isB b → tS T' b = tS T b ∧ tN T' b = tN T b) : CTT T' σ := fun b hb => by
  obtain ⟨e1, e2⟩ := e b hb
  obtain ⟨h1, h2⟩ := h b hb
  rw [e1, e2]
  exact ⟨h1, fun z => CTr.eq e1 e2 (h2 z)⟩
section RES
variable {d : Nat}
theorem c_restore {T T' : TP} {n : Int} (hn : n = 0 ∨ n = 1) {σ : SS} (hT : TOKA T) (hT' : TOKA T') (hC : CTx T σ) (hI : CTT T σ) (hch : -1000000 ≤ σ 2 0 1 ∧ σ 2 0 1 ≤ 1000000) (h35 : σ 35 0 n ≠ 0) (hIm : ImgC T' σ n) : ∃ σ', Rn (d + 6) 41 [vr 0 0, vi n] σ (vi 1) σ' ∧ Fm (fun t i j => t = 6 ∨ t = 37 ∨ Crt t i j) σ σ' ∧ CTx T' σ' ∧ CTT T' σ' ∧ CKd T' σ' ∧ σ' 2 0 1 = σ 2 0 1 + 1 := by
  let PP : AV → SS → Prop := fun v σ' => v = vi 1 ∧ Fm (fun t i j => t = 6 ∨ t = 37 ∨ Crt t i j) σ σ' ∧ CTx T' σ' ∧ CTT T' σ' ∧ CKd T' σ' ∧ σ' 2 0 1 = σ 2 0 1 + 1
  have loop : ∀ (m k : Nat) (σ1 : SS), k + m = 3 → Fm (fun t _ _ => t = 6 ∨ t = 37 ∨ t = 5 ∨ (39 ≤ t ∧ t ≤ 45)) σ σ1 → CTx (TJ T T' k) σ1 → CTT (TJ T T' k) σ1 → G (d + 5) PP 41 16 [vr 0 0, vi n, vi (k : Int), vu, vu] [] σ1 := by
    intro m
    induction m with
    | zero =>
      intro k σ1 hk hF hC1 hI1
      obtain rfl : k = 3 := by omega
      have e1 : σ1 2 0 1 = σ 2 0 1 := hF _ _ _ (by omega)
      have lo : ∀ b, isB b → tS T' b = tS (TJ T T' ((3 : Nat) : Int)) b ∧ tN T' b = tN (TJ T T' ((3 : Nat) : Int)) b ∧ tG T' b = tG (TJ T T' ((3 : Nat) : Int)) b ∧ tV T' b = tV (TJ T T' ((3 : Nat) : Int)) b := fun b hb => by
        unfold isB at hb
        obtain ⟨y1, y2, y3, y4⟩ := TJ_lo (T := T) (T' := T') (k := ((3 : Nat) : Int)) (b := b) (by omega)
        exact ⟨y1.symm, y2.symm, y3.symm, y4.symm⟩
      have hC2 : CTx T' σ1 := hC1.cong lo
      have hI2 : CTT T' σ1 := hI1.cong fun b hb => ⟨(lo b hb).1, (lo b hb).2.1⟩
      obtain ⟨σ2, k1, k2, k3, k4⟩ := c_kinds (d := d + 1) hT' hC2 hI2 (by rw [e1]; exact hch)
      refine b_41_16 (d := d) ⟨fun _ => ⟨σ2, k1, rfl, (hF.mono fun t i j w => ?_).tr (k2.mono fun t i j w => ?_), hC2.keep k2 (fun t i j w => by omega), hI2.keep k2 (fun t i j w => by omega), k4, by rw [k3, e1]⟩, fun w => absurd w (by omega)⟩
      · unfold Crt; omega
      · unfold Crt; omega
    | succ m ih =>
      intro k σ1 hk hF hC1 hI1
      have hb : isB (k : Int) := by unfold isB; omega
      obtain ⟨σ2, t1, t2, t3, t4⟩ := take_a (d := d + 3) (σ := σ1) (q := 3 * n + (k : Int)) (p := (k : Int))
      have hC2 : CTx (TJ T T' ((k + 1 : Nat) : Int)) σ2 := fun b hb' => by
        by_cases w : b = k
        · obtain ⟨e1, e2, e3, e4⟩ := TJ_lo (T := T) (T' := T') (k := ((k + 1 : Nat) : Int)) (b := b) (by omega)
          obtain ⟨y1, y2, y3, y4⟩ := hIm b hb'
          rw [e1, e2, e3, e4, w, t3 1 (by omega), t3 2 (by omega), t3 3 (by omega)]
          rw [w] at y1 y2 y3 y4
          refine ⟨(hF _ _ _ (by omega)).trans y1, (hF _ _ _ (by omega)).trans y2, (hF _ _ _ (by omega)).trans y3, fun p p1 p2 => ?_⟩
          rw [t4 p p1 p2]
          exact (hF _ _ _ (by omega)).trans (y4 p p1 p2)
        · obtain ⟨y1, y2, y3, y4⟩ := hC1 b hb'
          rw [t2 _ _ _ (by omega), t2 _ _ _ (by omega), t2 _ _ _ (by omega)]
          by_cases z : b < k
          · obtain ⟨e1, e2, e3, e4⟩ := TJ_lo (T := T) (T' := T') (k := ((k + 1 : Nat) : Int)) (b := b) (by omega)
            obtain ⟨g1, g2, g3, g4⟩ := TJ_lo (T := T) (T' := T') (k := (k : Int)) (b := b) z
            rw [e1, e2, e3, e4, ← g1, ← g2, ← g3, ← g4]
            exact ⟨y1, y2, y3, fun p p1 p2 => by rw [t2 _ _ _ (by omega)]; exact y4 p p1 p2⟩
          · obtain ⟨e1, e2, e3, e4⟩ := TJ_hi (T := T) (T' := T') (k := ((k + 1 : Nat) : Int)) (b := b) (by omega)
            obtain ⟨g1, g2, g3, g4⟩ := TJ_hi (T := T) (T' := T') (k := (k : Int)) (b := b) z
            rw [e1, e2, e3, e4, ← g1, ← g2, ← g3, ← g4]
            exact ⟨y1, y2, y3, fun p p1 p2 => by rw [t2 _ _ _ (by omega)]; exact y4 p p1 p2⟩
      obtain ⟨σ3, q1, q2, q3, q4⟩ := chg_q (d := d) (T := TJ T T' (k : Int)) (T' := TJ T T' ((k + 1 : Nat) : Int)) (q := (k : Int)) (TJ_ok hT hT' _) hb hI1 (fun c hc w => by
        by_cases z : c < k
        · obtain ⟨e1, e2, -⟩ := TJ_lo (T := T) (T' := T') (k := ((k + 1 : Nat) : Int)) (b := c) (by omega)
          obtain ⟨g1, g2, -⟩ := TJ_lo (T := T) (T' := T') (k := (k : Int)) (b := c) z
          exact ⟨e1.trans g1.symm, e2.trans g2.symm⟩
        · obtain ⟨e1, e2, -⟩ := TJ_hi (T := T) (T' := T') (k := ((k + 1 : Nat) : Int)) (b := c) (by omega)
          obtain ⟨g1, g2, -⟩ := TJ_hi (T := T) (T' := T') (k := (k : Int)) (b := c) z
          exact ⟨e1.trans g1.symm, e2.trans g2.symm⟩) t2 (fun t i j w => w.1) hC2
      refine b_41_16 (d := d) ⟨fun w => absurd w (by omega), fun _ => ⟨some (33, 3 * n + (k : Int)), σ1, s_44 hn hb, b_41_23r ⟨some (4, (k : Int)), σ1, s_15 hb, b_41_28rr ⟨σ2, t1, σ3, q1, irI (by omega) (by omega), ?_⟩⟩⟩⟩
      have := ih (k + 1) σ3 (by omega) (((hF.mono fun t i j w => w).tr (t2.mono fun t i j w => by omega)).tr (q2.mono fun t i j w => by unfold Ctm at w; omega)) q3 q4
      rw [show (((k + 1 : Nat) : Int)) = (k : Int) + 1 by push_cast; rfl] at this
      exact this
  have hC0 : CTx (TJ T T' ((0 : Nat) : Int)) σ := hC.cong fun b hb => by unfold isB at hb; exact TJ_hi (by omega)
  have hI0 : CTT (TJ T T' ((0 : Nat) : Int)) σ := hI.cong fun b hb => by
    unfold isB at hb
    obtain ⟨g1, g2, -⟩ := TJ_hi (T := T) (T' := T') (k := ((0 : Nat) : Int)) (b := b) (by omega)
    exact ⟨g1, g2⟩
  have : Ok (d + 6) 41 [vr 0 0, vi n] σ PP := G_ok rfl (b_41_0 (d := d) ⟨fun _ => ⟨by omega, fun _ => loop 3 0 σ rfl (Fm.rf σ) hC0 hI0, fun q => absurd q h35⟩, fun q => absurd (show 0 ≤ n ∧ n ≤ 1 by omega) (ifR.1.mp q)⟩)
  obtain ⟨v, σ', h1, rfl, h2⟩ := this
  exact ⟨σ', h1, h2⟩
theorem m_restore {T' : TP} {n : Int} (hn : n = 0 ∨ n = 1) {σ : SS} (h90 : σ 90 0 n ≠ 0) (hIm : ImgM T' σ n) : ∃ σ', Rn (d + 2) 86 [vr 62 0, vi n] σ (vi 1) σ' ∧ Fm (fun t _ _ => 63 ≤ t ∧ t ≤ 66) σ σ' ∧ MTx T' σ' := by
  let PP : AV → SS → Prop := fun v σ' => v = vi 1 ∧ Fm (fun t _ _ => 63 ≤ t ∧ t ≤ 66) σ σ' ∧ MTx T' σ'
  have i0 : ir (130 * n) := irI (by omega) (by omega)
  have loop2 : ∀ (m k : Nat) (σ1 : SS), k + m = 120 → Fm (fun t _ _ => 63 ≤ t ∧ t ≤ 66) σ σ1 → (∀ b : Int, isB b → σ1 65 0 b = (tN T' b : Int) ∧ σ1 63 0 b = tG T' b ∧ σ1 64 0 b = tV T' b) → (∀ x : Int, 0 ≤ x → x < k → σ1 66 0 x = σ 89 0 (130 * n + 9 + x)) → G (d + 1) PP 86 61 [vr 62 0, vu, vi (130 * n), vi (k : Int)] [] σ1 := by
    intro m
    induction m with
    | zero =>
      intro k σ1 hk hF hb3 hx
      obtain rfl : k = 120 := by omega
      refine b_86_61 ⟨fun _ => ⟨rfl, hF, fun b hb => ?_⟩, fun w => absurd w (by omega)⟩
      obtain ⟨y1, y2, y3⟩ := hb3 b hb
      have hm := (hIm b hb).2.2.2
      unfold isB at hb
      exact ⟨y1, y2, y3, fun p p1 p2 => by rw [hx _ (by omega) (by omega)]; exact hm p p1 p2⟩
    | succ m ih =>
      intro k σ1 hk hF hb3 hx
      have e89 : σ1 89 0 (130 * n + 9 + (k : Int)) = σ 89 0 (130 * n + 9 + (k : Int)) := hF _ _ _ (by omega)
      refine b_86_61 ⟨fun w => absurd w (by omega), fun _ => ⟨irI (by omega) (by omega), irI (by omega) (by omega), by omega, by omega, fun σ2 e2 => ⟨irI (by omega) (by omega), ?_⟩⟩⟩
      rw [e89] at e2
      refine ih (k + 1) σ2 (by omega) (by rw [e2]; exact hF.up (by omega)) (fun b hb => ?_) fun x x1 x2 => ?_
      · rw [e2, up_ne (by omega), up_ne (by omega), up_ne (by omega)]
        exact hb3 b hb
      · rw [e2]
        by_cases w : x = k
        · rw [w]; exact up_eq ⟨rfl, rfl, rfl⟩
        · rw [up_ne (by omega)]; exact hx x x1 (by omega)
  have loop1 : ∀ (m k : Nat) (σ1 : SS), k + m = 3 → Fm (fun t _ _ => 63 ≤ t ∧ t ≤ 65) σ σ1 → (∀ b : Int, 0 ≤ b → b < k → σ1 65 0 b = (tN T' b : Int) ∧ σ1 63 0 b = tG T' b ∧ σ1 64 0 b = tV T' b) → G (d + 1) PP 86 20 [vr 62 0, vu, vi (130 * n), vi (k : Int)] [] σ1 := by
    intro m
    induction m with
    | zero =>
      intro k σ1 hk hF hb3
      obtain rfl : k = 3 := by omega
      exact b_86_20 ⟨fun _ => loop2 120 0 σ1 rfl (hF.mono fun t i j w => by omega) (fun b hb => by unfold isB at hb; exact hb3 b hb.1 (by omega)) (fun x x1 x2 => by omega), fun w => absurd w (by omega)⟩
    | succ m ih =>
      intro k σ1 hk hF hb3
      have hb : isB (k : Int) := by unfold isB; omega
      obtain ⟨c1, c2, c3, c4⟩ := hIm _ hb
      have k1 : ∀ j, σ1 89 0 j = σ 89 0 j := fun j => hF _ _ _ (by omega)
      refine b_86_20 ⟨fun w => absurd w (by omega), fun _ => ⟨irI (by omega) (by omega), by omega, by omega, fun σ2 e2 => ?_⟩⟩
      rw [k1, c2] at e2
      have k2 : ∀ j, σ2 89 0 j = σ 89 0 j := fun j => by rw [e2, up_ne (by omega)]; exact k1 j
      refine ⟨irI (by omega) (by omega), irI (by omega) (by omega), by omega, by omega, fun σ3 e3 => ?_⟩
      rw [k2, c3] at e3
      have k3 : ∀ j, σ3 89 0 j = σ 89 0 j := fun j => by rw [e3, up_ne (by omega)]; exact k2 j
      refine ⟨irI (by omega) (by omega), irI (by omega) (by omega), by omega, by omega, fun σ4 e4 => ⟨irI (by omega) (by omega), ?_⟩⟩
      rw [k3, c1] at e4
      refine ih (k + 1) σ4 (by omega) (by rw [e4, e3, e2]; exact ((hF.up (by omega)).up (by omega)).up (by omega)) fun b b1 b2 => ?_
      by_cases w : b = k
      · rw [w]
        refine ⟨?_, ?_, ?_⟩
        · rw [e4]; exact up_eq ⟨rfl, rfl, rfl⟩
        · rw [e4, up_ne (by omega), e3, up_ne (by omega), e2]; exact up_eq ⟨rfl, rfl, rfl⟩
        · rw [e4, up_ne (by omega), e3]; exact up_eq ⟨rfl, rfl, rfl⟩
      · rw [e4, up_ne (by omega), up_ne (by omega), up_ne (by omega), e3, up_ne (by omega), up_ne (by omega), up_ne (by omega), e2, up_ne (by omega), up_ne (by omega), up_ne (by omega)]
        exact hb3 b b1 (by omega)
  have : Ok (d + 2) 86 [vr 62 0, vi n] σ PP := G_ok rfl (b_86_0 (d := d) ⟨fun _ => ⟨by omega, fun _ => ⟨i0, loop1 3 0 σ rfl (Fm.rf σ) (fun b b1 b2 => by omega)⟩, fun q => absurd q h90⟩, fun q => absurd (show 0 ≤ n ∧ n ≤ 1 by omega) (ifR.1.mp q)⟩)
  obtain ⟨v, σ', h1, rfl, h2⟩ := this
  exact ⟨σ', h1, h2⟩
end RES
/-- restore -/
theorem ag_41 (a1 : Int) (_ : ir a1) : Agr Inv 41 86 [vi a1] := by
  intro k σ hk hI
  obtain ⟨T, hI⟩ := hI
  obtain ⟨hT, hB, hM, hch, h22, h15, h7, h8⟩ := id hI
  by_cases hn : 0 ≤ a1 ∧ a1 ≤ 1
  rotate_left
  · exact ⟨-2, σ, σ, G_rn rfl (b_41_0 (d := 3) ⟨fun q => absurd (ifR.2.mp q) hn, fun _ => ⟨rfl, rfl⟩⟩), G_rn rfl (b_86_0 (d := 7) ⟨fun q => absurd (ifR.2.mp q) hn, fun _ => ⟨rfl, rfl⟩⟩), Inv.step ⟨T, hI⟩, rfl, rfl⟩
  have hn' : a1 = 0 ∨ a1 = 1 := by omega
  obtain ⟨z1, z2⟩ := h8 a1 hn'
  rcases z2 with z2 | ⟨z2, T', hT', i1, i2⟩
  · exact ⟨-3, σ, σ, G_rn rfl (b_41_0 (d := 3) ⟨fun _ => ⟨by omega, fun q => absurd z2 q, fun _ => ⟨rfl, rfl⟩⟩, fun q => absurd hn (ifR.1.mp q)⟩), G_rn rfl (b_86_0 (d := 7) ⟨fun _ => ⟨by omega, fun q => absurd (z1.trans z2) q, fun _ => ⟨rfl, rfl⟩⟩, fun q => absurd hn (ifR.1.mp q)⟩), Inv.step ⟨T, hI⟩, rfl, rfl⟩
  obtain ⟨σ3, r1, r2, r3, r4, r5, r6⟩ := c_restore (d := 3) hn' hT hT' hB.1 hB.2.1 (by omega) (by omega) i1
  have i3 : ImgM T' σ3 a1 := fun b hb => by
    obtain ⟨y1, y2, y3, y4⟩ := i2 b hb
    have e : ∀ j, σ3 89 0 j = σ 89 0 j := fun j => r2 _ _ _ (by unfold Crt; omega)
    rw [e, e, e]
    exact ⟨y1, y2, y3, fun p p1 p2 => (e _).trans (y4 p p1 p2)⟩
  have e90 : σ3 90 0 a1 = σ 90 0 a1 := r2 _ _ _ (by unfold Crt; omega)
  obtain ⟨σ4, m1, m2, m3⟩ := m_restore (d := 7) hn' (by rw [e90, z1, z2]; decide) i3
  have g3 : σ3 99 = σ 99 := f99t r2 (fun t i j w => by unfold Crt at w; omega)
  exact ⟨1, σ3, σ4, r1, m1, chg_fin hI hT' r3 r4 r5 r6 (r2 _ _ _ (by unfold Crt; omega)) (r2 _ _ _ (by unfold Crt; omega)) (h8.keep r2 (fun t i j w => by unfold Crt at w; omega)) m2 (fun t i j w => by omega) m3, g3, (f99t m2 (fun t i j w => by omega)).trans g3⟩
