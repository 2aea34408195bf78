/-! ===== a run, whole ===== -/
/-- the model's run beside what the class keeps of its last run -/
def RunM (T : TP) (d' : Nat) (b n : Int) (σ : SS) : Prop := ∀ τ, MTx T τ → ∃ v τ', Rn (d' + 7) 81 [vr 62 0, vi b, vi n] τ (vi v) τ' ∧ Fm Cmr τ τ' ∧
  ((σ 1 0 14 = 1 ∧ v = 0 ∧ τ' 62 0 30 = σ 1 0 12 ∧ τ' 62 0 31 = σ 32 0 6 ∧ τ' 62 0 33 = σ 32 0 7 ∧ τ' 62 0 34 = σ 32 0 8 ∧ τ' 62 0 35 = σ 32 0 9 ∧ τ' 62 0 36 = σ 32 0 10 ∧ τ' 62 0 37 = σ 1 0 13 ∧ τ' 62 0 39 = σ 32 0 11 ∧ τ' 62 0 40 = σ 32 0 12 ∧ (tV T b = 1 → (0 ≤ τ' 62 0 29 ∧ τ' 62 0 29 < 302) ∧ τ' 86 0 (τ' 62 0 29) = σ 1 0 11) ∧ (tV T b ≠ 1 → τ' 62 0 29 = σ 1 0 11)) ∨ (σ 1 0 14 = 0 ∧ v = -3))
/-- bounds of what the class keeps -/
def RunC (σ : SS) : Prop := (σ 1 0 14 = 0 ∨ σ 1 0 14 = 1) ∧ (σ 1 0 14 = 1 → (0 ≤ σ 32 0 6 ∧ σ 32 0 6 ≤ 300) ∧ (0 ≤ σ 32 0 11 ∧ σ 32 0 11 ≤ 600) ∧ (σ 32 0 6 ≤ σ 32 0 12 ∧ σ 32 0 12 ≤ 2 * σ 32 0 6) ∧ (1 ≤ σ 32 0 6 → 1 ≤ σ 32 0 11))
section RUN
variable {T : TP} {d d' : Nat}
theorem end56 {σ : SS} {b n s0 v : Int} (hs : s0 = 0 ∨ s0 = 1) (h3 : σ 6 b 3 = v) :
    ∃ σ', (∀ {P : AV → SS → Prop}, P (vi s0) σ' → G (d + 5) P 114 56 [vr 1 0, vi b, vi n, vr 4 b, vu] [vi s0, vr 1 0] σ) ∧ Fm (fun t _ j => t = 1 ∧ (j = 11 ∨ (14 ≤ j ∧ j ≤ 17))) σ σ' ∧ σ' 1 0 14 = s0 ∧ σ' 1 0 15 = σ 2 0 1 ∧ σ' 1 0 16 = b ∧ σ' 1 0 17 = n ∧ (v = 1 → σ' 1 0 11 = rg 300 (σ 58 0) (σ 1 0 11)) ∧ (v ≠ 1 → σ' 1 0 11 = σ 1 0 11) := by
  by_cases q : v = 1
  · obtain ⟨σ1, e1⟩ : ∃ σ1, σ1 = up (up σ 1 0 14 s0) 1 0 11 (rg 300 (σ 58 0) (σ 1 0 11)) := ⟨_, rfl⟩
    obtain ⟨σ', e'⟩ : ∃ σ', σ' = up (up (up σ1 1 0 15 (σ 2 0 1)) 1 0 16 b) 1 0 17 n := ⟨_, rfl⟩
    have k14 : σ' 1 0 14 = s0 := by rw [e', up_ne (by omega), up_ne (by omega), up_ne (by omega), e1, up_ne (by omega)]; exact up_eq ⟨rfl, rfl, rfl⟩
    refine ⟨σ', fun {P} hP => b_114x_56 ⟨hs, fun σa ea => ⟨fun w => absurd (by rw [ea, up_ne (by omega), h3]; exact q) w, fun _ σb eb => b_114x_69 fun σ3 e3 σ4 e4 σ5 e5 => ?_⟩⟩, ?_, k14, ?_, ?_, ?_, fun _ => ?_, fun w => absurd q w⟩
    · have : σ5 = σ' := by
        have eb' : σb = σ1 := by rw [eb, ea, e1]; rfl
        rw [e5, e4, e3, eb', e', show σ1 2 0 1 = σ 2 0 1 by rw [e1, up_ne (by omega), up_ne (by omega)]]
      rw [this, k14]; exact ⟨hs, hP⟩
    · rw [e', e1]; exact (((((Fm.rf σ).up (by omega)).up (by omega)).up (by omega)).up (by omega)).up (by omega)
    · rw [e', up_ne (by omega), up_ne (by omega)]; exact up_eq ⟨rfl, rfl, rfl⟩
    · rw [e', up_ne (by omega)]; exact up_eq ⟨rfl, rfl, rfl⟩
    · rw [e']; exact up_eq ⟨rfl, rfl, rfl⟩
    · rw [e', up_ne (by omega), up_ne (by omega), up_ne (by omega), e1]; exact up_eq ⟨rfl, rfl, rfl⟩
  · obtain ⟨σ1, e1⟩ : ∃ σ1, σ1 = up σ 1 0 14 s0 := ⟨_, rfl⟩
    obtain ⟨σ', e'⟩ : ∃ σ', σ' = up (up (up σ1 1 0 15 (σ 2 0 1)) 1 0 16 b) 1 0 17 n := ⟨_, rfl⟩
    have k14 : σ' 1 0 14 = s0 := by rw [e', up_ne (by omega), up_ne (by omega), up_ne (by omega), e1]; exact up_eq ⟨rfl, rfl, rfl⟩
    refine ⟨σ', fun {P} hP => b_114x_56 ⟨hs, fun σa ea => ⟨fun _ => b_114x_69 fun σ3 e3 σ4 e4 σ5 e5 => ?_, fun w => absurd (by rw [ea, up_ne (by omega), h3] at w; exact w) q⟩⟩, ?_, k14, ?_, ?_, ?_, fun w => absurd w q, fun _ => ?_⟩
    · have : σ5 = σ' := by
        rw [e5, e4, e3, ea, e', e1, show up σ 1 0 14 s0 2 0 1 = σ 2 0 1 from up_ne (by omega)]
      rw [this, k14]; exact ⟨hs, hP⟩
    · rw [e', e1]; exact ((((Fm.rf σ).up (by omega)).up (by omega)).up (by omega)).up (by omega)
    · rw [e', up_ne (by omega), up_ne (by omega)]; exact up_eq ⟨rfl, rfl, rfl⟩
    · rw [e', up_ne (by omega)]; exact up_eq ⟨rfl, rfl, rfl⟩
    · rw [e']; exact up_eq ⟨rfl, rfl, rfl⟩
    · rw [e', up_ne (by omega), up_ne (by omega), up_ne (by omega), e1]; exact up_ne (by omega)
theorem run_new {σ : SS} (hLy : LyC T σ) {b : Int} (hb : isB b) {n : Int} (hn : 0 ≤ n ∧ n ≤ 999) :
    ∃ σ', (∀ {P : AV → SS → Prop}, P (vi (σ' 1 0 14)) σ' → G (d + 5) P 114 17 [vr 1 0, vi b, vi n, vu, vu] [] σ) ∧ Fm Crun σ σ' ∧ σ' 1 0 15 = σ 2 0 1 ∧ σ' 1 0 16 = b ∧ σ' 1 0 17 = n ∧ RunM T d' b n σ' ∧ RunC σ' := by
  obtain ⟨hT, hW, hCW, hLay⟩ := id hLy
  obtain ⟨g, σb, g2, r1, r2, r3, r4⟩ := begin_ok (d := d + 2) (d' := d') hLy hb hn
  obtain ⟨σL, v1, v2, v3⟩ := loop_ok (d := d) (d' := d') (l1 := b) (l2 := n) (q := b) hLy g2 9003 0 σb [(b, 0, 0, 0)] rfl r2 (by omega) (by rw [r3]; exact Int.le_refl _)
  have h63 : σL 6 b 3 = tV T b := (v2 _ _ _ (by unfold Crun; omega)).trans (hCW.1 b hb).2.2.1
  have e2 : σL 2 0 1 = σ 2 0 1 := v2 _ _ _ (by unfold Crun; omega)
  have start : ∀ {P : AV → SS → Prop}, G (d + 5) P 114 46 [vr 1 0, vi b, vi n, vr 4 b, vu] [] σL → G (d + 5) P 114 17 [vr 1 0, vi b, vi n, vu, vu] [] σ := fun {P} hG => b_114x_17 ⟨some (4, b), σ, s_15 hb, b_114x_21r ⟨σb, r1, v1 hG⟩⟩
  rcases v3 with ⟨hR, h3, hm⟩ | ⟨h0, hm⟩
  · obtain ⟨hF, hc, hh, hS, hSt, hkn, hst, hcl, hres⟩ := id hR
    have h10 : σL 1 0 10 = 0 := hh
    have hre : vkA (tV T b) (σL 1 0 11) (σL 32 0 6) := hres trivial
    have hg := hSt.rng
    obtain ⟨i1, i2, i3, i4, i5, i6, i7, i8, i9, i10, i11, i12, i13, i14⟩ := hSt
    obtain ⟨σ', u1, u2, u3, u4, u5, u6, u7, u8⟩ := end56 (d := d) (b := b) (n := n) (s0 := 1) (Or.inr rfl) h63
    have k32 : ∀ j, σ' 32 0 j = σL 32 0 j := fun j => u2 _ _ _ (by omega)
    refine ⟨σ', fun {P} hP => start (b_114x_46 ⟨fun q => absurd q (by omega), fun _ => ⟨fun q => absurd h10 q, fun _ => u1 (by rw [u3] at hP; exact hP)⟩⟩), v2.tr (u2.mono fun t i j q => by unfold Crun; omega), u4.trans e2, u5, u6, fun τ hMT => ?_, Or.inr u3, fun _ => ?_⟩
    · obtain ⟨τb, w1, w2, w3⟩ := r4 τ hMT
      obtain ⟨τ', w4, w5, w6⟩ := hm τb w2
      obtain ⟨⟨m1, m2, m3, m4, m5, m6, m7, m8⟩, m9, m10⟩ := w5
      have m29 : τ' 62 0 29 = σL 1 0 11 + tV T b := m10 trivial
      obtain ⟨s1, s2, s3, s4, s5, s6, s7, s8, s9, s10, s11, s12⟩ := m4
      refine ⟨0, τ', G_rn rfl (w1 (w4 (b_81x_112 ⟨fun q => absurd q (by omega), fun _ => ⟨fun _ => b_81x_123 ⟨rfl, rfl⟩, fun q => absurd q (by omega)⟩⟩))), w3.tr w6, Or.inl ⟨u3, rfl, ?_, ?_, ?_, ?_, ?_, ?_, ?_, ?_, ?_, fun q => ?_, fun q => ?_⟩⟩
      · rw [m7]; exact (u2 _ _ _ (by omega)).symm
      · rw [k32]; exact s4
      · rw [k32]; exact s6
      · rw [k32]; exact s7
      · rw [k32]; exact s8
      · rw [k32]; exact s9
      · rw [m8]; exact (u2 _ _ _ (by omega)).symm
      · rw [k32]; exact s11
      · rw [k32]; exact s12
      · unfold vkA at hre
        rw [m29, q, u7 q, rg_in ⟨by omega, by omega⟩]
        exact ⟨by omega, s3 _ (by omega) (by omega)⟩
      · have : tV T b = 0 := by have := (hT b hb).2.2.1; omega
        rw [m29, u8 q, this, Int.add_zero]
    · rw [k32, k32, k32]
      exact ⟨i2, i12, i13, i14⟩
  · obtain ⟨σ', u1, u2, u3, u4, u5, u6, u7, u8⟩ := end56 (d := d) (b := b) (n := n) (s0 := 0) (Or.inl rfl) h63
    refine ⟨σ', fun {P} hP => start (b_114x_46 ⟨fun _ => b_114x_55 (u1 (by rw [u3] at hP; exact hP)), fun q => absurd h0 q⟩), v2.tr (u2.mono fun t i j q => by unfold Crun; omega), u4.trans e2, u5, u6, fun τ hMT => ?_, Or.inl u3, fun q => by omega⟩
    obtain ⟨τb, w1, w2, w3⟩ := r4 τ hMT
    obtain ⟨τ', w4, w5, w6⟩ := hm τb w2
    refine ⟨-3, τ', G_rn rfl (w1 (w4 (b_81x_112 ⟨fun q => b_81x_120 (b_81x_123 ⟨rfl, rfl⟩), fun q => ⟨fun q' => absurd w5 (by omega), fun _ => b_81x_120 (b_81x_123 ⟨rfl, rfl⟩)⟩⟩))), w3.tr w6, Or.inr ⟨u3, rfl⟩⟩
end RUN
