/-- the store, the count of boxes made being z in the model -/
def SRz (z : Int) (σ τ : SS) : Prop := τ 62 0 28 = σ 32 0 3 ∧ (∀ r : Int, 0 ≤ r → r < σ 32 0 3 → τ 87 0 r = σ 59 0 r ∧ τ 88 0 r = σ 60 0 r - 1) ∧ (∀ i : Int, 0 ≤ i → i < σ 32 0 6 → τ 86 0 (i + 1) = σ 58 0 i) ∧ τ 62 0 31 = z ∧ τ 62 0 32 = σ 32 0 4 ∧ τ 62 0 33 = σ 32 0 7 ∧ τ 62 0 34 = σ 32 0 8 ∧ τ 62 0 35 = σ 32 0 9 ∧ τ 62 0 36 = σ 32 0 10 ∧ τ 62 0 38 = σ 32 0 5 ∧ τ 62 0 39 = σ 32 0 11 ∧ τ 62 0 40 = σ 32 0 12
section CLOSEZ
variable {d : Nat} {σ τ : SS} {o : Nat} {B : Int}
theorem m_closeZ {z : Int} (h : StI σ (o + 1) B) (hR : SRz z σ τ) (ho : o < 546) : ∃ τ', Rn (d + 1) 73 [vr 62 0] τ vu τ' ∧ SRz z (clR σ) τ' ∧ Fm Cstm τ τ' := by
  have hr := h.rng
  obtain ⟨h1, h2, h3, h4, h5, h6, h7, h8, h9, h10, h11, h12, h13, h14⟩ := h
  obtain ⟨a1, a2, a3, a4, a5, a6, a7, a8, a9, a10, a11, a12⟩ := hR
  have e3 : σ 32 0 3 - 1 = (o : Int) := by omega
  have ho1 := h4 o (by omega)
  have ho2 := hr.2.2 o (by omega)
  have hp : 0 ≤ σ 59 0 o * σ 60 0 o ∧ σ 59 0 o * σ 60 0 o ≤ 600 := by rcases ho1.2 with y | y <;> rw [y] <;> omega
  have x3 : clR σ 32 0 3 = o := by unfold clR; rw [up_ne (by omega), up_ne (by omega), up_eq ⟨rfl, rfl, rfl⟩]; exact e3
  have x4 : clR σ 32 0 4 = σ 32 0 4 - σ 59 0 o := by unfold clR; rw [up_ne (by omega), up_eq ⟨rfl, rfl, rfl⟩, e3]
  have x5 : clR σ 32 0 5 = σ 32 0 5 - σ 59 0 o * σ 60 0 o := by unfold clR; rw [up_eq ⟨rfl, rfl, rfl⟩, e3]
  have x : ∀ j, j ≠ 3 → j ≠ 4 → j ≠ 5 → clR σ 32 0 j = σ 32 0 j := fun j q1 q2 q3 => clR_Fm _ _ _ (by omega)
  have y8 : ∀ j, clR σ 58 0 j = σ 58 0 j := fun j => clR_Fm _ _ _ (by omega)
  have y9 : ∀ j, clR σ 59 0 j = σ 59 0 j := fun j => clR_Fm _ _ _ (by omega)
  have y0 : ∀ j, clR σ 60 0 j = σ 60 0 j := fun j => clR_Fm _ _ _ (by omega)
  obtain ⟨z1, z2⟩ := a2 o (by omega) (by omega)
  let τ3 := up (up (up τ 62 0 28 o) 62 0 32 (σ 32 0 4 - σ 59 0 o)) 62 0 38 (σ 32 0 5 - σ 59 0 o * σ 60 0 o)
  have fin : SRz z (clR σ) τ3 := by
    have m : ∀ t j, (t ≠ 62 ∨ (j ≠ 28 ∧ j ≠ 32 ∧ j ≠ 38)) → τ3 t 0 j = τ t 0 j := fun t j q => by simp only [τ3]; rw [up_ne (by omega), up_ne (by omega), up_ne (by omega)]
    refine ⟨?_, fun r r1 r2 => ?_, fun i i1 i2 => ?_, ?_, ?_, ?_, ?_, ?_, ?_, ?_, ?_, ?_⟩
    · rw [x3]; simp only [τ3]; rw [up_ne (by omega), up_ne (by omega), up_eq ⟨rfl, rfl, rfl⟩]
    · rw [x3] at r2; rw [y9, y0, m 87 _ (by omega), m 88 _ (by omega)]; exact a2 r r1 (by omega)
    · rw [x 6 (by omega) (by omega) (by omega)] at i2; rw [y8, m 86 _ (by omega)]; exact a3 i i1 i2
    · rw [m 62 _ (by omega)]; exact a4
    · rw [x4]; simp only [τ3]; rw [up_ne (by omega), up_eq ⟨rfl, rfl, rfl⟩]
    · rw [x 7 (by omega) (by omega) (by omega), m 62 _ (by omega)]; exact a6
    · rw [x 8 (by omega) (by omega) (by omega), m 62 _ (by omega)]; exact a7
    · rw [x 9 (by omega) (by omega) (by omega), m 62 _ (by omega)]; exact a8
    · rw [x 10 (by omega) (by omega) (by omega), m 62 _ (by omega)]; exact a9
    · rw [x5]; simp only [τ3]; rw [up_eq ⟨rfl, rfl, rfl⟩]
    · rw [x 11 (by omega) (by omega) (by omega), m 62 _ (by omega)]; exact a11
    · rw [x 12 (by omega) (by omega) (by omega), m 62 _ (by omega)]; exact a12
  refine ⟨τ3, G_rn rfl (b_73_0 ⟨irI (by omega) (by omega), fun τ1 e1 => ?_⟩), fin, ?_⟩
  · rw [a1, e3] at e1
    have b1 : τ1 62 0 28 = o := by rw [e1, up_eq ⟨rfl, rfl, rfl⟩]
    have b2 : τ1 62 0 32 = σ 32 0 4 := by rw [e1, up_ne (by omega)]; exact a5
    have b3 : τ1 87 0 o = σ 59 0 o := by rw [e1, up_ne (by omega)]; exact z1
    rw [b1, b2, b3]
    refine ⟨by omega, irI (by omega) (by omega), fun τ2 e2 => ?_⟩
    have c1 : τ2 62 0 28 = o := by rw [e2, up_ne (by omega)]; exact b1
    have c2 : τ2 62 0 38 = σ 32 0 5 := by rw [e2, up_ne (by omega), e1, up_ne (by omega)]; exact a10
    have c3 : τ2 87 0 o = σ 59 0 o := by rw [e2, up_ne (by omega)]; exact b3
    have c4 : τ2 88 0 o = σ 60 0 o - 1 := by rw [e2, up_ne (by omega), e1, up_ne (by omega)]; exact z2
    rw [c1, c2, c3, c4]
    refine ⟨by omega, fun q => ⟨by omega, irI (by omega) (by omega), fun τ4 e4 => ⟨rfl, ?_⟩⟩, fun q => ⟨by omega, irI (by omega) (by omega), irI (by omega) (by omega), fun τ4 e4 => ⟨rfl, ?_⟩⟩⟩
    · rw [e4, e2, e1]; simp only [τ3]
      rw [show σ 60 0 o = 1 by omega, Int.mul_one]
    · rw [e4, e2, e1]; simp only [τ3]
      rw [show σ 60 0 o = 2 by omega, Int.mul_comm]
  · simp only [τ3]
    refine (((Fm.rf τ).up ?_).up ?_).up ?_ <;> unfold Cstm <;> omega
end CLOSEZ
section CLOSELZ
variable {β : SS} {b : Int} {f p : Nat} {d : Nat}
theorem m_closeLoopZ {z : Int} (hb : isB b) (ho8 : 0 ≤ β 4 b 8 ∧ β 4 b 8 ≤ 40) : ∀ (m : Nat) (r : Int) (σ τ : SS) (o : Nat) (B : Int), LyE β τ → SRz z σ τ → StI σ (o + cH β b p m r) B → o + cH β b p m r ≤ 546 → 2 ≤ r → r + m = 2 + β 4 b 8 →
    ∃ τ', SRz z (clH β b p m r σ) τ' ∧ Fm Cstm τ τ' ∧ ∀ P : AV → SS → Prop, P vu τ' → G (d + 1) P 77 7 [vr 62 0, vi (f : Int), vi (40 * b + (p : Int)), vi 0, vi b, vi r] [] τ
  | 0, r, σ, τ, o, B, hL, hR, h, _, hr, hrm => by
    have e76 := (hL b hb).1
    refine ⟨τ, hR, Fm.rf τ, fun P hP => ?_⟩
    unfold isB at hb
    exact b_77_7 ⟨by omega, by rw [e76]; exact irI (by omega) (by omega), fun _ => hP, fun q => absurd q (by rw [e76]; omega)⟩
  | m + 1, r, σ, τ, o, B, hL, hR, h, ho, hr, hrm => by
    have e76 := (hL b hb).1
    have e75 := (hL b hb).2 r hr (by omega)
    have hb' := hb
    unfold isB at hb'
    have i1 : ir (44 * b) := irI (by omega) (by omega)
    have i2 : ir (44 * b + r) := irI (by omega) (by omega)
    have rg1 : 0 ≤ 44 * b + r ∧ 44 * b + r < 132 := by omega
    have hir : ir (r + 1) := irI (by omega) (by omega)
    simp only [cH] at h ho
    by_cases q : β 49 b r = p
    · rw [if_pos q] at h ho
      have h' : StI σ (o + cH β b p m (r + 1) + 1) B := by rw [show o + cH β b p m (r + 1) + 1 = o + (1 + cH β b p m (r + 1)) by omega]; exact h
      obtain ⟨-, h1⟩ := c_close (d := 0) h' (by omega)
      obtain ⟨τ1, j1, j2, j3⟩ := m_closeZ (d := d) h' hR (by omega)
      obtain ⟨τ', k1, k2, k3⟩ := m_closeLoopZ hb ho8 m (r + 1) (clR σ) τ1 o B (hL.keep j3 (fun t i j w => by unfold Cstm at w; omega)) j2 h1 (by omega) (by omega) (by omega)
      simp only [clH, if_pos q]
      refine ⟨τ', k1, j3.tr k2, fun P hP => ?_⟩
      refine b_77_7 ⟨by omega, by rw [e76]; exact irI (by omega) (by omega), fun w => absurd w (by rw [e76]; omega), fun _ => ⟨i1, i2, rg1, ?_⟩⟩
      rw [e75]
      exact ⟨fun w => absurd (by omega) w, fun _ => ⟨fun _ => ⟨i1, i2, rg1, fun w => absurd (by omega) w, fun _ => ⟨τ1, j1, hir, k3 P hP⟩⟩, fun w => absurd rfl w⟩⟩
    · rw [if_neg q, Nat.zero_add] at h ho
      simp only [clH, if_neg q]
      obtain ⟨τ', k1, k2, k3⟩ := m_closeLoopZ hb ho8 m (r + 1) σ τ o B hL hR h ho (by omega) (by omega)
      refine ⟨τ', k1, k2, fun P hP => ?_⟩
      refine b_77_7 ⟨by omega, by rw [e76]; exact irI (by omega) (by omega), fun w => absurd w (by rw [e76]; omega), fun _ => ⟨i1, i2, rg1, ?_⟩⟩
      rw [e75]
      exact ⟨fun _ => ⟨i1, i2, rg1, fun _ => ⟨hir, k3 P hP⟩, fun w => absurd w (by omega)⟩, fun w => absurd w (by omega)⟩
end CLOSELZ
section GO
variable {T : TP} {β : SS} {g : Nat} {b0 : Int} {d d' : Nat}
theorem Chn.mem : ∀ {L : List SL} {y : SL}, Chn T b0 L → y ∈ L → slotOK T y
  | [], _, _, hy => by cases hy
  | x :: L, y, h, hy => by
    rcases List.mem_cons.mp hy with e | e
    · rw [e]; exact h.slot
    · exact Chn.mem h.tail e
/-- the top part is left, the result having been found -/
theorem go_leave (hLy : LyC T β) (hg : g ≤ 2) {σ σl : SS} {x : SL} {L : List SL} {C : Nat → Int → Int → Prop} (hc : Chn T b0 (x :: L)) (hS : SKA T β g σ L) (hF : Fm Crun β σ) (hFl : Fm C σ σl) (hC : ∀ t i j, C t i j → (t = 1 ∧ j = 11) ∨ (t = 51 ∧ j = (L.length : Int)) ∨ t = 58 ∨ t = 59 ∨ t = 60 ∨ t = 32) (h6 : σ 32 0 6 ≤ σl 32 0 6) (hh : σ 1 0 10 = (L.length : Int) + 1) (hSt : StI σl (osm β g L + hcB β (sB x) (sP x)) (2 + 40 * σ 1 0 12)) (hkn : σ 1 0 14 = 1) (hst : 0 ≤ σ 1 0 12 ∧ σ 1 0 12 ≤ 3001) (hcl : 0 ≤ σ 1 0 13 ∧ σ 1 0 13 + c1K L ≤ σ 1 0 12) (hv : vkA (kdA T (sB x) (sP x)) (σl 1 0 11) (σl 32 0 6)) :
    ∃ σ', Rn (d + 3) 122 [vr 1 0, vr 4 (sB x), vi (sP x : Int)] σl vu σ' ∧ RI T β g b0 σ' L ∧ σ' 1 0 12 = σ 1 0 12 ∧
      ∀ τ τ4 (D : Nat → Int → Int → Prop) (h : Int), MM T β σ τ L h → Fm D τ τ4 → (∀ t i j, D t i j → t = 62 ∨ (t = 80 ∧ j = (L.length : Int)) ∨ (86 ≤ t ∧ t ≤ 88)) → SR σl τ4 → τ4 62 0 19 = (L.length : Int) + 1 → τ4 62 0 30 = σ 1 0 12 → τ4 62 0 37 = σ 1 0 13 → τ4 62 0 24 = (sF x : Int) + 1 → τ4 82 0 (sF x) = sB x → τ4 62 0 29 = σl 1 0 11 + kdA T (sB x) (sP x) →
        ∃ τ', Rn (d' + 3) 78 [vr 62 0, vi (sF x : Int), vi (40 * sB x + (sP x : Int))] τ4 vu τ' ∧ RR T β b0 σ' τ' L ∧ Fm Cmr τ τ' := by
  have l12 : σl 1 0 12 = σ 1 0 12 := hFl _ _ _ fun q => by have := hC _ _ _ q; omega
  have l13 : σl 1 0 13 = σ 1 0 13 := hFl _ _ _ fun q => by have := hC _ _ _ q; omega
  have l14 : σl 1 0 14 = σ 1 0 14 := hFl _ _ _ fun q => by have := hC _ _ _ q; omega
  have l10 : σl 1 0 10 = σ 1 0 10 := hFl _ _ _ fun q => by have := hC _ _ _ q; omega
  have ag : AgC β σ σl L := by
    have e : ∀ (t : Nat) (j : Int), 50 ≤ t → t ≤ 57 → (t = 51 → j ≠ L.length) → σl t 0 j = σ t 0 j := fun t j h1 h2 h3 => hFl _ _ _ fun q => by have := hC _ _ _ q; omega
    exact ⟨h6, fun i hi => ⟨e _ _ (by omega) (by omega) (by omega), e _ _ (by omega) (by omega) (by omega), e _ _ (by omega) (by omega) (by omega), e _ _ (by omega) (by omega) (by omega)⟩, fun y _ => ⟨e _ _ (by omega) (by omega) (by omega), e _ _ (by omega) (by omega) (by omega), e _ _ (by omega) (by omega) (by omega), fun r _ _ _ => e _ _ (by omega) (by omega) (by omega)⟩⟩
  obtain ⟨σ', r1, r2, r3, r4⟩ := leave_ok (d := d) (d' := d') hLy hg (σ := σl) hc (hF.tr (hFl.mono fun t i j q => by have := hC _ _ _ q; unfold Crun; omega)) (l10.trans hh) (hS.cong (fun b hb => (hLy.ho b hb).2) hc.tail ag) (by rw [l12]; exact hSt) (l14.trans hkn) (by rw [l12]; exact hst) (by rw [l12, l13]; exact hcl) hv
  refine ⟨σ', r1, r2, r3.trans l12, fun τ τ4 D h hm hD hd hR h19 h30 h37 h24 h82 h29 => ?_⟩
  have agm : AgM β τ τ4 L := by
    have e : ∀ (t : Nat) (j : Int), 78 ≤ t → t ≤ 85 → (t = 80 → j ≠ L.length) → τ4 t 0 j = τ t 0 j := fun t j h1 h2 h3 => hD _ _ _ fun q => by have := hd _ _ _ q; omega
    exact ⟨fun i hi => ⟨e _ _ (by omega) (by omega) (by omega), e _ _ (by omega) (by omega) (by omega), e _ _ (by omega) (by omega) (by omega), e _ _ (by omega) (by omega) (by omega)⟩, fun y _ => ⟨e _ _ (by omega) (by omega) (by omega), e _ _ (by omega) (by omega) (by omega), e _ _ (by omega) (by omega) (by omega), fun r _ _ _ => e _ _ (by omega) (by omega) (by omega)⟩⟩
  obtain ⟨τ', v1, v2, v3⟩ := r4 τ4 (hm.move (b0 := b0) (C := fun _ _ _ => False) hLy hc.tail hD (fun t i j q => by have := hd t i j q; omega) ag agm hR h19 (h30.trans l12.symm) (h37.trans l13.symm)) h24 h82 h29
  exact ⟨τ', v1, v2, (hD.mono fun t i j q => by have := hd t i j q; unfold Cmr; omega).tr v3⟩
/-- a second term of the top part is begun -/
theorem go_push (hLy : LyC T β) {σ σp : SS} {b : Int} {f p c : Nat} {L : List SL} {C : Nat → Int → Int → Prop} (hR : RI T β g b0 σ ((b, f, p, 1) :: L)) (hFp : Fm C σ σp) (hC : ∀ t i j, C t i j → ((t = 51 ∨ t = 53) ∧ j = (L.length : Int)) ∨ (t = 56 ∧ j = 40 * (f : Int) + p)) (h51 : σp 51 0 L.length = 2) (h56 : kos (tS T b p) = 8 → vkA (kdA T b (c0A (tS T b) p)) (σp 56 0 (40 * (f : Int) + p)) (σ 32 0 6)) (h53 : kos (tS T b p) = 6 → 0 ≤ σp 53 0 L.length ∧ σp 53 0 L.length ≤ 999) (hc2 : Chn T b0 ((b, f, c, 0) :: (b, f, p, 2) :: L)) :
    ∃ σ', Rn (d + 3) 118 [vr 1 0, vi (f : Int), vi (c : Int)] σp vu σ' ∧ RI T β g b0 σ' ((b, f, c, 0) :: (b, f, p, 2) :: L) ∧ σ' 1 0 12 = σ 1 0 12 ∧
      ∀ τ τ4 (D : Nat → Int → Int → Prop), RR T β b0 σ τ ((b, f, p, 1) :: L) → Fm D τ τ4 → (∀ t i j, D t i j → ((t = 80 ∨ t = 81) ∧ j = (L.length : Int)) ∨ (t = 84 ∧ j = 40 * (f : Int) + p)) → (kos (tS T b p) = 6 → τ4 80 0 L.length = 2 ∧ τ4 81 0 L.length = σp 53 0 L.length) → (kos (tS T b p) ≠ 6 → τ4 80 0 L.length = 3) → (kos (tS T b p) = 8 → τ4 84 0 (40 * (f : Int) + p) = σp 56 0 (40 * (f : Int) + p) + kdA T b (c0A (tS T b) p)) →
        ∃ τ', Rn (d' + 3) 76 [vr 62 0, vi (f : Int), vi (40 * b + (c : Int))] τ4 vu τ' ∧ RR T β b0 σ' τ' ((b, f, c, 0) :: (b, f, p, 2) :: L) ∧ Fm Cmr τ τ' := by
  obtain ⟨hT, hW, -⟩ := id hLy
  obtain ⟨hF, hc, hh, hS, hSt, hkn, hst, hcl, hres⟩ := hR
  have hp40 : p < 40 := Nat.lt_of_lt_of_le hc.slot.2.2.1 (hT _ hc.slot.1).1
  have e1 : ∀ j, σp 1 0 j = σ 1 0 j := fun j => hFp _ _ _ fun q => by have := hC _ _ _ q; omega
  have e6 : σp 32 0 6 = σ 32 0 6 := hFp _ _ _ fun q => by have := hC _ _ _ q; omega
  have lex : ∀ y, y ∈ L → 40 * (sF y : Int) + sP y ≠ 40 * (f : Int) + p := fun y hy => by
    have hl := hc.lex hW y hy
    have hy2 := hc.tail.mem hy
    have := hy2.2.2.1
    have := (hT _ hy2.1).1
    change sF y < f ∨ (sF y = f ∧ sP y < p ∧ sB y = b) at hl
    omega
  have ag : AgC β σ σp L := by
    have e : ∀ (t : Nat) (j : Int), 50 ≤ t → t ≤ 57 → ((t = 51 ∨ t = 53) → j ≠ L.length) → (t = 56 → j ≠ 40 * (f : Int) + p) → σp t 0 j = σ t 0 j := fun t j h1 h2 h3 h4 => hFp _ _ _ fun q => by have := hC _ _ _ q; omega
    exact ⟨by rw [e6]; exact Int.le_refl _, fun i hi => ⟨e _ _ (by omega) (by omega) (by omega) (by omega), e _ _ (by omega) (by omega) (by omega) (by omega), e _ _ (by omega) (by omega) (by omega) (by omega), e _ _ (by omega) (by omega) (by omega) (by omega)⟩, fun y hy => ⟨e _ _ (by omega) (by omega) (by omega) (by omega), e _ _ (by omega) (by omega) (by omega) (by omega), e _ _ (by omega) (by omega) (by omega) (fun _ => lex y hy), fun r _ _ _ => e _ _ (by omega) (by omega) (by omega) (by omega)⟩⟩
  have ek : ∀ (t : Nat) (j : Int), t = 50 ∨ t = 52 ∨ t = 54 ∨ t = 55 ∨ t = 57 → σp t 0 j = σ t 0 j := fun t j h => hFp _ _ _ fun q => by have := hC _ _ _ q; omega
  obtain ⟨s1, s2, s3, s4, s5, s6, s7, s8, s9, s10⟩ := hS.1
  have hosm2 : osm β g ((b, f, p, 2) :: L) = osm β g ((b, f, p, 1) :: L) := by
    show osm β g L + (if 1 ≤ 2 then hcB β b p else 0) = osm β g L + (if 1 ≤ 1 then hcB β b p else 0)
    rw [if_pos (by omega), if_pos (by omega)]
  have hSp : SKA T β g σp ((b, f, p, 2) :: L) := by
    refine ⟨⟨(ek _ _ (by omega)).trans s1, (ek _ _ (by omega)).trans s2, h51, (ek _ _ (by omega)).trans s4, by rw [ek _ _ (by omega), e6]; exact s5, fun _ w => by rw [e6]; exact h56 w, fun _ w => h53 w, fun q => by rw [ek _ _ (by omega)]; exact s8 q, fun q w => by rw [ek _ _ (by omega)]; exact s9 q w, fun _ r r1 r2 r3 => by rw [ek _ _ (by omega), hosm2]; exact s10 (by show 1 ≤ (1 : Nat); omega) r r1 r2 r3⟩, hS.2.cong (fun b hb => (hLy.ho b hb).2) hc.tail ag⟩
  have t1 := hSp.1
  have hc12 : c1K ((b, f, p, 2) :: L) = c1K L := by show c1K L + (if (2 : Nat) = 1 then 1 else 0) = _; rw [if_neg (by omega)]; omega
  have hc11 : c1K ((b, f, p, 1) :: L) = c1K L + 1 := by show c1K L + (if (1 : Nat) = 1 then 1 else 0) = _; rw [if_pos rfl]
  rw [hc11] at hcl
  have ot : osm β g L ≤ osm β g ((b, f, p, 2) :: L) := osm_tail _ _ _ _
  obtain ⟨σ', r1, r2, r3, r4⟩ := push_ok (d := d + 1) (d' := d' + 2) hLy hc2 rfl (hF.tr (hFp.mono fun t i j q => by have := hC _ _ _ q; unfold Crun; omega)) (by rw [e1, hh]; simp) hSp (by rw [hosm2, e1]; exact hSt.keep hFp (fun t i j q => by have := hC _ _ _ q; omega)) ((e1 _).trans hkn) (by rw [e1]; exact hst) (by rw [e1, e1, hc12]; omega) t1.2.2.2.1 t1.2.2.2.2.1 (fun q => by have := t1.2.2.2.2.2.2.2.1 q; change 0 ≤ σp 57 0 (42 * (f : Int)) ∧ σp 57 0 (42 * (f : Int)) < osm β g L at this; show 0 ≤ σp 57 0 (42 * (f : Int)) ∧ σp 57 0 (42 * (f : Int)) < osm β g ((b, f, p, 2) :: L); omega) (fun q w => by have := t1.2.2.2.2.2.2.2.2.1 q w; change 0 ≤ σp 57 0 (42 * (f : Int) + 1) ∧ σp 57 0 (42 * (f : Int) + 1) < osm β g L at this; show 0 ≤ σp 57 0 (42 * (f : Int) + 1) ∧ σp 57 0 (42 * (f : Int) + 1) < osm β g ((b, f, p, 2) :: L); omega)
  refine ⟨σ', r1, r2, r3.trans (e1 _), fun τ τ4 D hRR hD hd h80 h80' h84 => ?_⟩
  obtain ⟨⟨m1, m2, m3, m4, m5, m6, m7, m8⟩, m9, m10⟩ := hRR
  have d1 : ∀ (t : Nat) (j : Int), t ≠ 80 → t ≠ 81 → t ≠ 84 → τ4 t 0 j = τ t 0 j := fun t j h1 h2 h3 => hD _ _ _ fun q => by have := hd _ _ _ q; omega
  have agm : AgM β τ τ4 L := by
    have e : ∀ (t : Nat) (j : Int), ((t = 80 ∨ t = 81) → j ≠ L.length) → (t = 84 → j ≠ 40 * (f : Int) + p) → τ4 t 0 j = τ t 0 j := fun t j h3 h4 => hD _ _ _ fun q => by have := hd _ _ _ q; omega
    exact ⟨fun i hi => ⟨e _ _ (by omega) (by omega), e _ _ (by omega) (by omega), e _ _ (by omega) (by omega), e _ _ (by omega) (by omega)⟩, fun y hy => ⟨e _ _ (by omega) (by omega), e _ _ (by omega) (by omega), e _ _ (by omega) (fun _ => lex y hy), fun r _ _ _ => e _ _ (by omega) (by omega)⟩⟩
  obtain ⟨⟨n1, n2, n3, n4, n5, n6, n7, n8, n9, n10, n11, n12⟩, m5'⟩ := id m5
  have hmk : MKA T β σp τ4 ((b, f, p, 2) :: L) := by
    refine ⟨⟨(d1 _ _ (by omega) (by omega) (by omega)).trans n1, (d1 _ _ (by omega) (by omega) (by omega)).trans n2, fun q => absurd q (by show ¬ (2 : Nat) = 0; omega), fun q => absurd q (by show ¬ (2 : Nat) = 1; omega), fun _ w => h80 w, fun _ w => h80' w, (d1 _ _ (by omega) (by omega) (by omega)).trans n7, ?_, fun _ w => h84 w, fun q => ?_, fun q w => ?_, fun _ r r1 r2 r3 => ?_⟩, m5'.cong (fun b hb => (hLy.ho b hb).2) hc.tail ag agm⟩
    · rw [d1 _ _ (by omega) (by omega) (by omega), ek _ _ (by omega)]; exact n8
    · rw [d1 _ _ (by omega) (by omega) (by omega), ek _ _ (by omega)]; exact n10 q
    · rw [d1 _ _ (by omega) (by omega) (by omega), ek _ _ (by omega)]; exact n11 q w
    · rw [d1 _ _ (by omega) (by omega) (by omega), ek _ _ (by omega)]; exact n12 (by show 1 ≤ (1 : Nat); omega) r r1 r2 r3
  have u := hmk.1
  obtain ⟨τ', v1, v2, v3⟩ := r4 τ4 ⟨m1.keep hT hD (fun t i j q => by have := hd t i j q; omega), m2.keep hD (fun t i j q => by have := hd t i j q; omega), fun b' hb' p' hp' => by rw [d1 _ _ (by omega) (by omega) (by omega)]; exact m3 b' hb' p' hp', (m4.keepC hFp (fun t i j w z => by have := hC t i j w; unfold Csto at z; omega)).keep hD (fun t i j w z => by have := hd t i j w; unfold Cstm at z; omega), hmk, by rw [d1 _ _ (by omega) (by omega) (by omega), m6]; simp, by rw [d1 _ _ (by omega) (by omega) (by omega), m7, e1], by rw [d1 _ _ (by omega) (by omega) (by omega), m8, e1]⟩ (by
    rw [d1 _ _ (by omega) (by omega) (by omega), m9 (by simp)]
    show (f : Int) + 1 + (if (1 : Nat) = 2 ∧ _ then 1 else 0) = _
    rw [if_neg (by omega)]; show (f : Int) + 1 + 0 = (f : Int) + 1; omega) u.2.2.2.2.2.2.1 u.2.2.2.2.2.2.2.1 u.2.2.2.2.2.2.2.2.2.1 u.2.2.2.2.2.2.2.2.2.2.1
  exact ⟨τ', v1, v2, (hD.mono fun t i j q => by have := hd t i j q; unfold Cmr; omega).tr v3⟩
end GO
