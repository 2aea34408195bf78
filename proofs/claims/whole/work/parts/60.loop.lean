/-! ===== all turns ===== -/
section LOOP
variable {T : TP} {β : SS} {g : Nat} {b0 : Int} {d d' : Nat}
theorem loop_ok (hLy : LyC T β) (hg : g ≤ 2) {l1 l2 q : Int} : ∀ (m n : Nat) (σ : SS) (L : List SL), n + m = 9003 → RI T β g b0 σ L → σ 1 0 12 ≤ 3000 → (n : Int) + poK L ≤ 3 * σ 1 0 12 →
    ∃ σ', (∀ {P : AV → SS → Prop}, G (d + 5) P 114 46 [vr 1 0, vi l1, vi l2, vr 4 q, vu] [] σ' → G (d + 5) P 114 33 [vr 1 0, vi l1, vi l2, vr 4 q, vi (n : Int)] [] σ) ∧ Fm Crun β σ' ∧
      ((RI T β g b0 σ' [] ∧ σ' 1 0 12 ≤ 3000 ∧ ∀ τ, RR T β b0 σ τ L → ∃ τ', (∀ {P : AV → SS → Prop}, G (d' + 6) P 81 112 [vr 62 0, vu, vu, vu, vu, vu] [] τ' → G (d' + 6) P 81 98 [vr 62 0, vu, vu, vu, vu, vu] [] τ) ∧ RR T β b0 σ' τ' [] ∧ Fm Cmr τ τ') ∨
       (σ' 1 0 14 = 0 ∧ ∀ τ, RR T β b0 σ τ L → ∃ τ', (∀ {P : AV → SS → Prop}, G (d' + 6) P 81 112 [vr 62 0, vu, vu, vu, vu, vu] [] τ' → G (d' + 6) P 81 98 [vr 62 0, vu, vu, vu, vu, vu] [] τ) ∧ (3001 ≤ τ' 62 0 30 ∨ 301 ≤ τ' 62 0 31) ∧ Fm Cmr τ τ'))
  | m, n, σ, [], hn, hR, h3, hp => by
    obtain ⟨hF, hc, hh, hS, hSt, hkn, hst, hcl, hres⟩ := id hR
    have h10 : σ 1 0 10 = 0 := by rw [hh]; rfl
    refine ⟨σ, fun hG => b_114x_33 ⟨fun _ => hG, fun _ => ⟨fun _ => hG, fun w => absurd w (by omega)⟩⟩, hF, Or.inl ⟨hR, h3, fun τ hRR => ⟨τ, fun hG => b_81x_98 ⟨fun _ => hG, fun w => absurd w ?_⟩, hRR, Fm.rf τ⟩⟩⟩
    rw [hRR.1.2.2.2.2.2.1]
    exact (by decide : ¬ (0 : Int) < ((0 : Nat) : Int))
  | 0, n, σ, x :: L, hn, hR, h3, hp => by omega
  | m + 1, n, σ, x :: L, hn, hR, h3, hp => by
    obtain ⟨hF, hc, hh, hS, hSt, hkn, hst, hcl, hres⟩ := id hR
    have h10 : σ 1 0 10 = (L.length : Int) + 1 := by rw [hh]; simp
    have hmd := hSt.2.1.2
    obtain ⟨σ1, r1, r2⟩ := turn_ok (d := d) (d' := d' + 1) hLy hg hR h3
    have hir : ir ((n : Int) + 1) := irI (by omega) (by omega)
    -- the model's loop, one turn
    have mt : ∀ τ, RR T β b0 σ τ (x :: L) → ∀ τ1, Rn (d' + 6) 80 [vr 62 0] τ vu τ1 → ∀ {P : AV → SS → Prop}, G (d' + 6) P 81 98 [vr 62 0, vu, vu, vu, vu, vu] [] τ1 → G (d' + 6) P 81 98 [vr 62 0, vu, vu, vu, vu, vu] [] τ := by
      intro τ hRR τ1 h1 P hG
      have e19 : τ 62 0 19 = (L.length : Int) + 1 := by rw [hRR.1.2.2.2.2.2.1]; simp
      have e30 : τ 62 0 30 = σ 1 0 12 := hRR.1.2.2.2.2.2.2.1
      have e31 : τ 62 0 31 = σ 32 0 6 := hRR.1.2.2.2.1.2.2.2.1
      exact b_81x_98 ⟨fun w => absurd w (by omega), fun _ => ⟨fun w => absurd w (by omega), fun _ => ⟨fun w => absurd w (by omega), fun _ => ⟨τ1, h1, hG⟩⟩⟩⟩
    have ct : ∀ {P : AV → SS → Prop}, G (d + 5) P 114 33 [vr 1 0, vi l1, vi l2, vr 4 q, vi (((n + 1 : Nat) : Int))] [] σ1 → G (d + 5) P 114 33 [vr 1 0, vi l1, vi l2, vr 4 q, vi (n : Int)] [] σ := fun {P} hG =>
      b_114x_33 ⟨fun w => absurd w (by omega), fun _ => ⟨fun w => absurd w (by omega), fun _ => ⟨fun w => absurd w (by omega), fun _ => ⟨σ1, r1, hir, hG⟩⟩⟩⟩
    rcases r2 with ⟨L', u1, u2, u3, u4⟩ | ⟨u1, u2, u3⟩
    · obtain ⟨σ', v1, v2, v3⟩ := loop_ok hLy hg m (n + 1) σ1 L' (by omega) u1 u2 (by omega)
      refine ⟨σ', fun hG => ct (v1 hG), v2, ?_⟩
      rcases v3 with ⟨w1, w2, w3⟩ | ⟨w1, w2⟩
      · refine Or.inl ⟨w1, w2, fun τ hRR => ?_⟩
        obtain ⟨τ1, k1, k2, k3⟩ := u4 τ hRR
        obtain ⟨τ', j1, j2, j3⟩ := w3 τ1 k2
        exact ⟨τ', fun hG => mt τ hRR τ1 k1 (j1 hG), j2, k3.tr j3⟩
      · refine Or.inr ⟨w1, fun τ hRR => ?_⟩
        obtain ⟨τ1, k1, k2, k3⟩ := u4 τ hRR
        obtain ⟨τ', j1, j2, j3⟩ := w2 τ1 k2
        exact ⟨τ', fun hG => mt τ hRR τ1 k1 (j1 hG), j2, k3.tr j3⟩
    · refine ⟨σ1, fun hG => ct (b_114x_33 ⟨fun _ => hG, fun _ => ⟨fun _ => hG, fun _ => ⟨fun _ => hG, fun w => absurd u2 w⟩⟩⟩), u1, Or.inr ⟨u2, fun τ hRR => ?_⟩⟩
      obtain ⟨τ1, k1, k2, k3⟩ := u3 τ hRR
      exact ⟨τ1, fun hG => mt τ hRR τ1 k1 (b_81x_98 ⟨fun _ => hG, fun _ => ⟨fun _ => hG, fun w1 => ⟨fun _ => hG, fun w2 => absurd k2 (by omega)⟩⟩⟩), k2, k3⟩
end LOOP
/-! ===== the beginning of a run ===== -/
section BEGIN
variable {T : TP} {β : SS} {b0 : Int} {d d' : Nat}
theorem StI_0 {σ : SS} (h : ∀ j : Int, 3 ≤ j → j ≤ 12 → σ 32 0 j = 0) : StI σ 0 0 := by
  unfold StI
  rw [h 3 (by omega) (by omega), h 4 (by omega) (by omega), h 5 (by omega) (by omega), h 6 (by omega) (by omega), h 7 (by omega) (by omega), h 8 (by omega) (by omega), h 9 (by omega) (by omega), h 10 (by omega) (by omega), h 11 (by omega) (by omega), h 12 (by omega) (by omega)]
  refine ⟨rfl, by omega, fun i a c => by omega, fun r hr => by omega, rfl, rfl, by omega, by omega, by omega, by omega, by omega, by omega, by omega, fun q => by omega⟩
/-- the given value is put down: the class's part, the model's beside it -/
theorem beg1 (hLy : LyC T β) {b : Int} (hb : isB b) {n : Int} (hn : 0 ≤ n ∧ n ≤ 999) {σ : SS} (hF : Fm Crun β σ) (h0 : ∀ j : Int, 3 ≤ j → j ≤ 12 → σ 32 0 j = 0) (h55 : σ 55 0 0 = n) :
    ∃ σA oA, StI σA oA oA ∧ oA ≤ 1 ∧ Fm (fun t _ j => t = 32 ∨ t = 57 ∨ t = 58 ∨ t = 59 ∨ t = 60 ∨ (t = 55 ∧ j = 0)) σ σA ∧ vkA (tG T b) (σA 55 0 0) (σA 32 0 6) ∧ (tG T b = 1 → oA = 1 ∧ σA 57 0 0 = 0) ∧
      ((tG T b = 1 → ∃ σ1 σ2 σ3, Rn (d + 2) 128 [vr 32 0] σ (vi 0) σ1 ∧ Rn (d + 2) 116 [vr 1 0, vi 0, vi 0, vi 0] σ1 vu σ2 ∧ Rn (d + 2) 130 [vr 32 0, vi 0, vi n] σ2 (vi 0) σ3 ∧ σA = us 13 σ3 55 0 0 0) ∧ (tG T b ≠ 1 → σA = σ)) ∧
      ∀ τ, SR σ τ → ∃ τA, SR σA τA ∧ Fm Cstm τ τA ∧ (tG T b = 1 → ∃ τ1, Rn (d' + 6) 72 [vr 62 0] τ (vi 0) τ1 ∧ Rn (d' + 6) 74 [vr 62 0, vi 0, vi n] τ1 (vi 1) τA ∧ Fm Cstm τ τ1) ∧ (tG T b ≠ 1 → τA = τ) := by
  have hSt := StI_0 h0
  by_cases q : tG T b = 1
  · obtain ⟨o1, o2⟩ := c_open (d := d) hSt (by omega) (by omega)
    have o3 := c_setR (d := d) (f := 0) (by omega) (σ := opR σ) (r := 0) (v := 0) ⟨by omega, by omega⟩
    obtain ⟨σ2, e2⟩ : ∃ σ2, σ2 = up (opR σ) 57 0 (42 * ((0 : Nat) : Int) + 0) 0 := ⟨_, rfl⟩
    rw [← e2] at o3
    have g2 : Fm (fun t _ _ => t = 57) (opR σ) σ2 := by rw [e2]; exact (Fm.rf _).up rfl
    have o4 : StI σ2 1 1 := o2.keep g2 (fun t i j w => by omega)
    have m0 : σ2 32 0 6 = 0 := (g2 _ _ _ (by omega)).trans ((opR_Fm _ _ _ (by omega)).trans (h0 6 (by omega) (by omega)))
    obtain ⟨σ3, o5, o6⟩ := c_put (d := d) o4 (by omega) (r := 0) (by omega) hn (by omega)
    rw [m0] at o5
    have o7 := o6.inv o4 (by omega) hn (by omega)
    have g3 : Fm (fun t _ j => t = 58 ∨ t = 59 ∨ t = 60 ∨ (t = 32 ∧ 4 ≤ j ∧ j ≤ 12 ∧ j ≠ 8 ∧ j ≠ 9)) σ2 σ3 := by obtain ⟨w, bs, ws, h1, h2, -⟩ := o6; exact h2
    have s6 : σ3 32 0 6 = 1 := by obtain ⟨w, bs, ws, h1, h2, h3, h4, h5, -⟩ := o6; rw [h5, m0]; rfl
    obtain ⟨σA, eA⟩ : ∃ σA, σA = up σ3 55 0 0 0 := ⟨_, rfl⟩
    have gA : Fm (fun t _ j => t = 55 ∧ j = 0) σ3 σA := by rw [eA]; exact (Fm.rf _).up ⟨rfl, rfl⟩
    refine ⟨σA, 1, o7.keep gA (fun t i j w => by omega), Nat.le_refl _, (((opR_Fm.mono fun t i j w => by omega).tr (g2.mono fun t i j w => by omega)).tr (g3.mono fun t i j w => by omega)).tr (gA.mono fun t i j w => by omega), ?_, fun _ => ⟨rfl, ?_⟩, ⟨fun _ => ⟨_, σ2, σ3, o1, o3, o5, by rw [us_in ⟨by omega, by omega⟩]; exact eA⟩, fun w => absurd q w⟩, fun τ hR => ?_⟩
    · rw [gA 32 0 6 (by omega), s6, eA, up_eq ⟨rfl, rfl, rfl⟩, q]; exact Or.inl ⟨rfl, by omega, by omega⟩
    · rw [gA _ _ _ (by omega), g3 _ _ _ (by omega), e2]; exact up_eq ⟨rfl, rfl, rfl⟩
    · obtain ⟨τ1, k1, k2, k3⟩ := m_open (d := d' + 5) hSt hR (by omega) (by omega)
      have k2' : SR σ2 τ1 := k2.keepC g2 (fun t i j w z => by unfold Csto at z; omega)
      obtain ⟨τA, p1, p2, p3⟩ := m_put (d := d' + 5) o4 (by omega) (r := 0) (by omega) hn (by omega) o6 k2'
      rw [m0] at p1
      exact ⟨τA, p2.keepC gA (fun t i j w z => by unfold Csto at z; omega), k3.tr p3, fun _ => ⟨τ1, k1, p1, k3⟩, fun w => absurd q w⟩
  · refine ⟨σ, 0, hSt, by omega, Fm.rf σ, ?_, fun w => absurd w q, ⟨fun w => absurd w q, fun _ => rfl⟩, fun τ hR => ⟨τ, hR, Fm.rf τ, fun w => absurd w q, fun _ => rfl⟩⟩
    rw [h55]; exact Or.inr ⟨q, hn⟩
/-- the region of what is given back -/
theorem beg2 {σA : SS} {oA : Nat} (hSt : StI σA oA oA) (ho : oA ≤ 1) (c : Prop) (hd : c ∨ ¬ c) :
    ∃ σB oB, StI σB oB oB ∧ oB ≤ 2 ∧ oA ≤ oB ∧ Fm (fun t _ j => t = 32 ∨ (t = 57 ∧ j = 1) ∨ t = 59 ∨ t = 60) σA σB ∧ σB 32 0 6 = σA 32 0 6 ∧ (c → oB = oA + 1 ∧ σB 57 0 1 = oA) ∧
      ((c → ∃ σ1, Rn (d + 2) 128 [vr 32 0] σA (vi (oA : Int)) σ1 ∧ Rn (d + 2) 116 [vr 1 0, vi 0, vi 1, vi (oA : Int)] σ1 vu σB) ∧ (¬ c → σB = σA)) ∧
      ∀ τ, SR σA τ → ∃ τB, SR σB τB ∧ Fm Cstm τ τB ∧ (c → Rn (d' + 6) 72 [vr 62 0] τ (vi (oA : Int)) τB) ∧ (¬ c → τB = τ) := by
  rcases hd with q | q
  · obtain ⟨o1, o2⟩ := c_open (d := d) hSt (by omega) (by omega)
    have o3 := c_setR (d := d) (f := 0) (by omega) (σ := opR σA) (r := 1) (v := oA) ⟨by omega, by omega⟩
    obtain ⟨σ2, e2⟩ : ∃ σ2, σ2 = up (opR σA) 57 0 (42 * ((0 : Nat) : Int) + 1) oA := ⟨_, rfl⟩
    rw [← e2] at o3
    have g2 : Fm (fun t _ j => t = 57 ∧ j = 1) (opR σA) σ2 := by rw [e2]; exact (Fm.rf _).up ⟨rfl, by omega⟩
    have o4 : StI σ2 (oA + 1) ((oA + 1 : Nat) : Int) := o2.keep g2 (fun t i j w => by omega)
    refine ⟨σ2, oA + 1, o4, by omega, by omega, (opR_Fm.mono fun t i j w => by omega).tr (g2.mono fun t i j w => by omega), (g2 _ _ _ (by omega)).trans (opR_Fm _ _ _ (by omega)), fun _ => ⟨rfl, by rw [e2]; exact up_eq ⟨rfl, rfl, by omega⟩⟩, ⟨fun _ => ⟨_, o1, o3⟩, fun w => absurd q w⟩, fun τ hR => ?_⟩
    obtain ⟨τ1, k1, k2, k3⟩ := m_open (d := d' + 5) hSt hR (by omega) (by omega)
    exact ⟨τ1, k2.keepC g2 (fun t i j w z => by unfold Csto at z; omega), k3, fun _ => k1, fun w => absurd q w⟩
  · exact ⟨σA, oA, hSt, by omega, by omega, Fm.rf _, rfl, fun w => absurd w q, ⟨fun w => absurd w q, fun _ => rfl⟩, fun τ hR => ⟨τ, hR, Fm.rf τ, fun w => absurd w q, fun _ => rfl⟩⟩
end BEGIN
