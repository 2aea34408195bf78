/-! ===== agreement: body, say, wipe ===== -/
theorem chg_fin {T T' : TP} {k : Nat} {σ σ3 σ4 : SS} {D : Nat → Int → Int → Prop} (hI : InvT T k σ) (hT' : TOKA T') (hC : CTx T' σ3) (hI3 : CTT T' σ3) (hK : CKd T' σ3) (hch : σ3 2 0 1 = σ 2 0 1 + 1) (h22 : σ3 2 0 2 = σ 2 0 2) (h15 : σ3 1 0 15 = σ 1 0 15) (hIm : Imgs σ3) (hF : Fm D σ3 σ4) (hD : ∀ t i j, D t i j → 62 ≤ t ∧ t ≤ 88) (hM : MTx T' σ4) : Inv (k + 1) σ4 := by
  obtain ⟨h1, h2, h3, h4, h5, h6, h7, h8⟩ := hI
  have e : ∀ (t : Nat) (j : Int), t < 62 → σ4 t 0 j = σ3 t 0 j := fun t j ht => hF _ _ _ fun q => by have := hD _ _ _ q; omega
  refine ⟨T', hT', ⟨hC.keep hF (fun t i j q => by have := hD t i j q; omega), hI3.keep hF (fun t i j q => by have := hD t i j q; omega), hK.keep hF (fun t i j q => by have := hD t i j q; omega), fun q => ?_⟩, hM, ?_, ?_, ?_, fun q => ?_, hIm.keep hF (fun t i j q => by have := hD t i j q; omega)⟩
  · rw [e 2 _ (by omega), e 2 _ (by omega), hch, h22] at q; omega
  · rw [e 2 _ (by omega), hch]; omega
  · rw [e 2 _ (by omega), e 2 _ (by omega), hch, h22]; omega
  · rw [e 1 _ (by omega), e 2 _ (by omega), hch, h15]; omega
  · rw [e 1 _ (by omega), e 2 _ (by omega), hch, h15] at q; omega
theorem CTr.eq {T T' : TP} {c : Int} {σ : SS} (eS : tS T' c = tS T c) (eN : tN T' c = tN T c) (h : CTr T c σ) : CTr T' c σ := by
  unfold CTr at h ⊢
  rw [eS, eN]
  exact h
def Crt : Nat → Int → Int → Prop := fun t i j => t = 5 ∨ (38 ≤ t ∧ t ≤ 45) ∨ (t = 2 ∧ i = 0 ∧ j = 1)
/-- body q's text is another: it is read, the others' trees stand -/
theorem chg_q {T T' : TP} {d : Nat} {q : Int} {σ σ2 : SS} {C : Nat → Int → Int → Prop} (hT' : TOKA T') (hq : isB q) (hB : CTT T σ) (same : ∀ c, isB c → c ≠ q → tS T' c = tS T c ∧ tN T' c = tN T c) (hF : Fm C σ σ2) (hC : ∀ t i j, C t i j → t = 6 ∨ t = 37) (hCx : CTx T' σ2) : ∃ σ3, Rn (d + 5) 133 [vr 5 q] σ2 vu σ3 ∧ Fm (Ctm q) σ2 σ3 ∧ CTx T' σ3 ∧ CTT T' σ3 := by
  obtain ⟨f, σ3, r1, r2, r3, r4, r5⟩ := c_read (d := d) hT' hq hCx
  refine ⟨σ3, r1, r2, hCx.keep r2 (fun t i j w => by unfold Ctm at w; omega), fun c hc => ?_⟩
  by_cases w : c = q
  · subst w
    rw [r4]
    exact ⟨r3, r5⟩
  · obtain ⟨eS, eN⟩ := same c hc w
    have hk := hB.keep hF (fun t i j z => by have := hC t i j z; omega)
    obtain ⟨k1, k2⟩ := hk c hc
    have e9 : σ3 5 c 9 = σ2 5 c 9 := r2 _ _ _ (by unfold Ctm; omega)
    rw [e9, eS, eN]
    exact ⟨k1, fun z => CTr.eq eS eN ((k2 z).keep r2 (fun t i j c1 c2 => w (c2.1.symm.trans c1.1)))⟩
theorem chg_read {T T' : TP} {d : Nat} {q : Int} {σ σ2 : SS} {C : Nat → Int → Int → Prop} (hT' : TOKA T') (hq : isB q) (hB : CTT T σ) (same : ∀ c, isB c → c ≠ q → tS T' c = tS T c ∧ tN T' c = tN T c) (hF : Fm C σ σ2) (hC : ∀ t i j, C t i j → t = 6 ∨ t = 37) (hCx : CTx T' σ2) (hch : -1000000 ≤ σ2 2 0 1 ∧ σ2 2 0 1 ≤ 1000000) : ∃ σ3, Rn (d + 6) 43 [vr 0 0, vr 4 q] σ2 vu σ3 ∧ Fm Crt σ2 σ3 ∧ CTx T' σ3 ∧ CTT T' σ3 ∧ CKd T' σ3 ∧ σ3 2 0 1 = σ2 2 0 1 + 1 := by
  obtain ⟨σ3, r1, r2, r3, r4⟩ := chg_q (d := d) hT' hq hB same hF hC hCx
  have e1 : σ3 2 0 1 = σ2 2 0 1 := r2 _ _ _ (by unfold Ctm; omega)
  obtain ⟨σ4, k1, k2, k3, k4⟩ := c_kinds (d := d + 1) hT' r3 r4 (by rw [e1]; exact hch)
  exact ⟨σ4, G_rn rfl (b_43_0 (d := d) ⟨σ3, r1, σ4, k1, rfl, rfl⟩), (r2.mono fun t i j w => by unfold Ctm at w; unfold Crt; omega).tr (k2.mono fun t i j w => by unfold Crt; omega), r3.keep k2 (fun t i j w => by omega), r4.keep k2 (fun t i j w => by omega), k4, by rw [k3, e1]⟩
theorem f99t {C : Nat → Int → Int → Prop} {σ σ' : SS} (h : Fm C σ σ') (hc : ∀ t i j, C t i j → t ≠ 99) : σ' 99 = σ 99 := f99 h fun i j q => hc _ _ _ q rfl
/-- body -/
theorem ag_26 (a1 a2 a3 : Int) (_ : ir a1) (_ : ir a2) (_ : ir a3) : Agr Inv 26 48 [vi a1, vi a2, vi a3] := by
  intro k σ hk hI
  obtain ⟨T, hI⟩ := hI
  obtain ⟨hT, hB, hM, hch, h22, h15, h7, h8⟩ := id hI
  by_cases hb : isB a1
  rotate_left
  · exact ⟨-1, σ, σ, G_rn rfl (b_26_0 (d := 4) ⟨none, σ, s_15n hb, b_26_4n ⟨rfl, rfl⟩⟩), G_rn rfl (b_48_0 (d := 6) ⟨fun q => absurd (ifB.2.mp q) hb, fun _ => ⟨rfl, rfl⟩⟩), Inv.step ⟨T, hI⟩, rfl, rfl⟩
  by_cases h2 : 0 ≤ a2 ∧ a2 ≤ 1
  rotate_left
  · exact ⟨-2, σ, σ, G_rn rfl (b_26_0 (d := 4) ⟨some (4, a1), σ, s_15 hb, b_26_4r ⟨fun _ => ⟨rfl, rfl⟩, fun q => absurd (ifR.2.mp q) h2⟩⟩), G_rn rfl (b_48_0 (d := 6) ⟨fun _ => ⟨fun _ => ⟨rfl, rfl⟩, fun q => absurd (ifR.2.mp q) h2⟩, fun q => absurd hb (ifB.1.mp q)⟩), Inv.step ⟨T, hI⟩, rfl, rfl⟩
  by_cases h3 : 0 ≤ a3 ∧ a3 ≤ 1
  rotate_left
  · exact ⟨-2, σ, σ, G_rn rfl (b_26_0 (d := 4) ⟨some (4, a1), σ, s_15 hb, b_26_4r ⟨fun q => absurd h2 (ifR.1.mp q), fun _ => ⟨fun q => absurd (ifR.2.mp q) h3, fun _ => ⟨rfl, rfl⟩⟩⟩⟩), G_rn rfl (b_48_0 (d := 6) ⟨fun _ => ⟨fun q => absurd h2 (ifR.1.mp q), fun _ => ⟨fun q => absurd (ifR.2.mp q) h3, fun _ => ⟨rfl, rfl⟩⟩⟩, fun q => absurd hb (ifB.1.mp q)⟩), Inv.step ⟨T, hI⟩, rfl, rfl⟩
  have hb' := hb
  unfold isB at hb'
  obtain ⟨c1, c2, c3, c4⟩ := hB.1 a1 hb
  obtain ⟨m1, m2, m3, m4⟩ := hM a1 hb
  obtain ⟨t1, t2, t3, t4⟩ := hT a1 hb
  obtain ⟨T', eT⟩ : ∃ T' : TP, T' = (T.1, T.2.1, fun b => if b = a1 then a2 else tG T b, fun b => if b = a1 then a3 else tV T b) := ⟨_, rfl⟩
  have eS : ∀ b, tS T' b = tS T b := fun b => by rw [eT]
  have eN : ∀ b, tN T' b = tN T b := fun b => by rw [eT]
  have eG : ∀ b, tG T' b = if b = a1 then a2 else tG T b := fun b => by rw [eT]
  have eV : ∀ b, tV T' b = if b = a1 then a3 else tV T b := fun b => by rw [eT]
  have hT' : TOKA T' := fun b hb => by
    obtain ⟨y1, y2, y3, y4⟩ := hT b hb
    rw [eS, eN, eG, eV]
    refine ⟨y1, ?_, ?_, y4⟩
    · split
      · omega
      · exact y2
    · split
      · omega
      · exact y3
  obtain ⟨σ2, e2⟩ : ∃ σ2, σ2 = up (up σ 6 a1 2 a2) 6 a1 3 a3 := ⟨_, rfl⟩
  have f2 : Fm (fun t i j => t = 6 ∧ i = a1 ∧ (j = 2 ∨ j = 3)) σ σ2 := by rw [e2]; exact ((Fm.rf σ).up (by omega)).up (by omega)
  have hC2 : CTx T' σ2 := fun b hb => by
    obtain ⟨y1, y2, y3, y4⟩ := hB.1 b hb
    rw [eS, eN, eG, eV]
    refine ⟨(f2 _ _ _ (by omega)).trans y1, ?_, ?_, fun p p1 p2 => (f2 _ _ _ (by omega)).trans (y4 p p1 p2)⟩
    · by_cases w : b = a1
      · rw [if_pos w, w, e2, up_ne (by omega)]; exact up_eq ⟨rfl, rfl, rfl⟩
      · rw [if_neg w, f2 _ _ _ (by omega)]; exact y2
    · by_cases w : b = a1
      · rw [if_pos w, w, e2]; exact up_eq ⟨rfl, rfl, rfl⟩
      · rw [if_neg w, f2 _ _ _ (by omega)]; exact y3
  have hI2 : CTT T' σ2 := fun c hc => by
    obtain ⟨y1, y2⟩ := hB.2.1.keep f2 (fun t i j w => by omega) c hc
    rw [eS, eN]
    exact ⟨y1, fun z => CTr.eq (eS c) (eN c) (y2 z)⟩
  have e21 : σ2 2 0 1 = σ 2 0 1 := f2 _ _ _ (by omega)
  obtain ⟨σ3, k1, k2, k3, k4⟩ := c_kinds (d := 4) hT' hC2 hI2 (by rw [e21]; omega)
  obtain ⟨σ4, e4⟩ : ∃ σ4, σ4 = up (up σ3 63 0 a1 a2) 64 0 a1 a3 := ⟨_, rfl⟩
  have f4 : Fm (fun t _ j => (t = 63 ∨ t = 64) ∧ j = a1) σ3 σ4 := by rw [e4]; exact ((Fm.rf σ3).up (by omega)).up (by omega)
  have f23 : Fm (fun t i j => t = 6 ∨ t = 38 ∨ (t = 2 ∧ i = 0 ∧ j = 1)) σ σ3 := (f2.mono fun t i j w => by omega).tr (k2.mono fun t i j w => by omega)
  have hM3 : MTx T σ3 := hM.keep f23 (fun t i j w => by omega)
  obtain ⟨n1, n2, n3, n4⟩ := hM3 a1 hb
  have hM4 : MTx T' σ4 := fun b hb => by
    obtain ⟨y1, y2, y3, y4⟩ := hM3 b hb
    rw [eS, eN, eG, eV]
    refine ⟨(f4 _ _ _ (by omega)).trans y1, ?_, ?_, fun p p1 p2 => (f4 _ _ _ (by omega)).trans (y4 p p1 p2)⟩
    · by_cases w : b = a1
      · rw [if_pos w, w, e4, up_ne (by omega)]; exact up_eq ⟨rfl, rfl, rfl⟩
      · rw [if_neg w, f4 _ _ _ (by omega)]; exact y2
    · by_cases w : b = a1
      · rw [if_pos w, w, e4]; exact up_eq ⟨rfl, rfl, rfl⟩
      · rw [if_neg w, f4 _ _ _ (by omega)]; exact y3
  have i1 : ir (10 * tG T a1) := irI (by omega) (by omega)
  have i2 : ir (10 * tG T a1 + tV T a1) := irI (by omega) (by omega)
  have g3 : σ3 99 = σ 99 := f99t f23 (fun t i j w => by omega)
  refine ⟨10 * tG T a1 + tV T a1, σ3, σ4, G_rn rfl (b_26_0 (d := 4) ⟨some (4, a1), σ, s_15 hb, b_26_4r ⟨fun q => absurd h2 (ifR.1.mp q), fun _ => ⟨fun _ => ?_, fun q => absurd h3 (ifR.1.mp q)⟩⟩⟩), G_rn rfl (b_48_0 (d := 6) ⟨fun _ => ⟨fun q => absurd h2 (ifR.1.mp q), fun _ => ⟨fun _ => ?_, fun q => absurd h3 (ifR.1.mp q)⟩⟩, fun q => absurd hb (ifB.1.mp q)⟩), chg_fin hI hT' (hC2.keep k2 (fun t i j w => by omega)) (hI2.keep k2 (fun t i j w => by omega)) k4 (by rw [k3, e21]) (f23 _ _ _ (by omega)) (f23 _ _ _ (by omega)) (h8.keep f23 (fun t i j w => by omega)) f4 (fun t i j w => by omega) hM4, g3, (f99t f4 (fun t i j w => by omega)).trans g3⟩
  · rw [c2, c3]
    exact ⟨⟨i1, i2⟩, fun σa ea σb eb => ⟨σ3, by rw [eb, ea, ← e2]; exact k1, rfl, rfl⟩⟩
  · rw [n2, n3]
    exact ⟨by omega, i1, by omega, i2, by omega, fun σa ea => ⟨by omega, fun σb eb => ⟨rfl, by rw [eb, ea, e4]⟩⟩⟩
/-- say -/
theorem ag_27 (a1 a2 : Int) (_ : ir a1) (_ : ir a2) : Agr Inv 27 49 [vi a1, vi a2] := by
  intro k σ hk hI
  obtain ⟨T, hI⟩ := hI
  obtain ⟨hT, hB, hM, hch, h22, h15, h7, h8⟩ := id hI
  by_cases hb : isB a1
  rotate_left
  · exact ⟨-1, σ, σ, G_rn rfl (b_27_0 (d := 2) ⟨none, σ, s_15n hb, b_27_4n ⟨rfl, rfl⟩⟩), G_rn rfl (b_49_0 (d := 6) ⟨fun q => absurd (ifB.2.mp q) hb, fun _ => ⟨rfl, rfl⟩⟩), Inv.step ⟨T, hI⟩, rfl, rfl⟩
  by_cases h2 : 33 ≤ a2 ∧ a2 ≤ 126
  rotate_left
  · exact ⟨-2, σ, σ, G_rn rfl (b_27_0 (d := 2) ⟨some (4, a1), σ, s_15 hb, b_27_4r ⟨fun q => absurd (ifR.2.mp q) h2, fun _ => ⟨rfl, rfl⟩⟩⟩), G_rn rfl (b_49_0 (d := 6) ⟨fun _ => ⟨fun q => absurd (ifR.2.mp q) h2, fun _ => ⟨rfl, rfl⟩⟩, fun q => absurd hb (ifB.1.mp q)⟩), Inv.step ⟨T, hI⟩, rfl, rfl⟩
  have hb' := hb
  unfold isB at hb'
  obtain ⟨c1, c2, c3, c4⟩ := hB.1 a1 hb
  obtain ⟨m1, m2, m3, m4⟩ := hM a1 hb
  obtain ⟨t1, t2, t3, t4⟩ := hT a1 hb
  by_cases hn : tN T a1 < 40
  rotate_left
  · exact ⟨-4, σ, σ, G_rn rfl (b_27_0 (d := 2) ⟨some (4, a1), σ, s_15 hb, b_27_4r ⟨fun _ => ⟨fun q => absurd q (by rw [c1]; omega), fun _ => ⟨rfl, rfl⟩⟩, fun q => absurd h2 (ifR.1.mp q)⟩⟩), G_rn rfl (b_49_0 (d := 6) ⟨fun _ => ⟨fun _ => ⟨hb', fun q => absurd (by rw [m1]; omega) q, fun _ => ⟨rfl, rfl⟩⟩, fun q => absurd h2 (ifR.1.mp q)⟩, fun q => absurd hb (ifB.1.mp q)⟩), Inv.step ⟨T, hI⟩, rfl, rfl⟩
  obtain ⟨T', eT⟩ : ∃ T' : TP, T' = (fun b => if b = a1 then (fun x => if x = (tN T a1 : Int) then a2 else tS T a1 x) else tS T b, fun b => if b = a1 then tN T a1 + 1 else tN T b, T.2.2.1, T.2.2.2) := ⟨_, rfl⟩
  have eS1 : tS T' a1 = (fun x => if x = (tN T a1 : Int) then a2 else tS T a1 x) := by rw [eT]; exact if_pos rfl
  have eN1 : tN T' a1 = tN T a1 + 1 := by rw [eT]; exact if_pos rfl
  have eS : ∀ b, b ≠ a1 → tS T' b = tS T b := fun b w => by rw [eT]; exact if_neg w
  have eN : ∀ b, b ≠ a1 → tN T' b = tN T b := fun b w => by rw [eT]; exact if_neg w
  have eG : ∀ b, tG T' b = tG T b := fun b => by rw [eT]
  have eV : ∀ b, tV T' b = tV T b := fun b => by rw [eT]
  have hT' : TOKA T' := fun b hb => by
    obtain ⟨y1, y2, y3, y4⟩ := hT b hb
    rw [eG, eV]
    by_cases w : b = a1
    · subst w
      rw [eS1, eN1]
      refine ⟨by omega, y2, y3, fun p hp => ?_⟩
      show 33 ≤ (if (p : Int) = (tN T b : Int) then a2 else tS T b p) ∧ (if (p : Int) = (tN T b : Int) then a2 else tS T b p) ≤ 126
      split
      · exact h2
      · exact y4 p (by omega)
    · rw [eS b w, eN b w]; exact ⟨y1, y2, y3, y4⟩
  obtain ⟨σ2, e2⟩ : ∃ σ2, σ2 = up (up σ 37 a1 (tN T a1) a2) 6 a1 1 ((tN T a1 : Int) + 1) := ⟨_, rfl⟩
  have f2 : Fm (fun t i j => i = a1 ∧ ((t = 6 ∧ j = 1) ∨ (t = 37 ∧ j = (tN T a1 : Int)))) σ σ2 := by rw [e2]; exact ((Fm.rf σ).up (by omega)).up (by omega)
  have hC2 : CTx T' σ2 := fun b hb => by
    obtain ⟨y1, y2, y3, y4⟩ := hB.1 b hb
    rw [eG, eV]
    by_cases w : b = a1
    · subst w
      rw [eS1, eN1]
      refine ⟨by rw [e2]; exact up_eq ⟨rfl, rfl, rfl⟩, (f2 _ _ _ (by omega)).trans y2, (f2 _ _ _ (by omega)).trans y3, fun p p1 p2 => ?_⟩
      show σ2 37 b p = if p = (tN T b : Int) then a2 else tS T b p
      by_cases z : p = (tN T b : Int)
      · rw [if_pos z, z, e2, up_ne (by omega)]; exact up_eq ⟨rfl, rfl, rfl⟩
      · rw [if_neg z, f2 _ _ _ (by omega)]; exact y4 p p1 p2
    · rw [eS b w, eN b w]
      exact ⟨(f2 _ _ _ (by omega)).trans y1, (f2 _ _ _ (by omega)).trans y2, (f2 _ _ _ (by omega)).trans y3, fun p p1 p2 => (f2 _ _ _ (by omega)).trans (y4 p p1 p2)⟩
  have e21 : σ2 2 0 1 = σ 2 0 1 := f2 _ _ _ (by omega)
  obtain ⟨σ3, k1, k2, k3, k4, k5, k6⟩ := chg_read (d := 2) hT' hb hB.2.1 (fun c _ w => ⟨eS c w, eN c w⟩) f2 (fun t i j w => by omega) hC2 (by rw [e21]; omega)
  have f23 : Fm (fun t i j => t = 6 ∨ t = 37 ∨ Crt t i j) σ σ3 := (f2.mono fun t i j w => by omega).tr (k2.mono fun t i j w => Or.inr (Or.inr w))
  have hM3 : MTx T σ3 := hM.keep f23 (fun t i j w => by unfold Crt at w; omega)
  obtain ⟨n1, n2, n3, n4⟩ := hM3 a1 hb
  obtain ⟨σ4, e4⟩ : ∃ σ4, σ4 = up (up σ3 66 0 (40 * a1 + tN T a1) a2) 65 0 a1 ((tN T a1 : Int) + 1) := ⟨_, rfl⟩
  have f4 : Fm (fun t _ j => (t = 65 ∧ j = a1) ∨ (t = 66 ∧ j = 40 * a1 + (tN T a1 : Int))) σ3 σ4 := by rw [e4]; exact ((Fm.rf σ3).up (by omega)).up (by omega)
  have hM4 : MTx T' σ4 := fun b hb => by
    obtain ⟨y1, y2, y3, y4⟩ := hM3 b hb
    unfold isB at hb
    rw [eG, eV]
    by_cases w : b = a1
    · subst w
      rw [eS1, eN1]
      refine ⟨by rw [e4]; exact up_eq ⟨rfl, rfl, rfl⟩, (f4 _ _ _ (by omega)).trans y2, (f4 _ _ _ (by omega)).trans y3, fun p p1 p2 => ?_⟩
      show σ4 66 0 (40 * b + p) = if p = (tN T b : Int) then a2 else tS T b p
      by_cases z : p = (tN T b : Int)
      · rw [if_pos z, z, e4, up_ne (by omega)]; exact up_eq ⟨rfl, rfl, rfl⟩
      · rw [if_neg z, f4 _ _ _ (by omega)]; exact y4 p p1 p2
    · rw [eS b w, eN b w]
      exact ⟨(f4 _ _ _ (by omega)).trans y1, (f4 _ _ _ (by omega)).trans y2, (f4 _ _ _ (by omega)).trans y3, fun p p1 p2 => (f4 _ _ _ (by omega)).trans (y4 p p1 p2)⟩
  have g3 : σ3 99 = σ 99 := f99t f23 (fun t i j w => by unfold Crt at w; omega)
  have k61 := (k3 a1 hb).1
  rw [eN1] at k61
  refine ⟨((tN T a1 + 1 : Nat) : Int), σ3, σ4, G_rn rfl (b_27_0 (d := 2) ⟨some (4, a1), σ, s_15 hb, b_27_4r ⟨fun _ => ⟨fun _ => ?_, fun q => absurd q (by rw [c1]; omega)⟩, fun q => absurd h2 (ifR.1.mp q)⟩⟩), G_rn rfl (b_49_0 (d := 6) ⟨fun _ => ⟨fun _ => ⟨hb', fun _ => ?_, fun q => absurd (n1.symm.trans q) (by omega)⟩, fun q => absurd h2 (ifR.1.mp q)⟩, fun q => absurd hb (ifB.1.mp q)⟩), chg_fin hI hT' k3 k4 k5 (by rw [k6, e21]) (f23 _ _ _ (by unfold Crt; omega)) (f23 _ _ _ (by unfold Crt; omega)) (h8.keep f23 (fun t i j w => by unfold Crt at w; omega)) f4 (fun t i j w => by omega) hM4, g3, (f99t f4 (fun t i j w => by omega)).trans g3⟩
  · rw [c1]
    intro σa ea
    rw [us_in ⟨by omega, by omega⟩] at ea
    have a61 : σa 6 a1 1 = (tN T a1 : Int) := by rw [ea, up_ne (by omega)]; exact c1
    rw [a61]
    exact ⟨irI (by omega) (by omega), fun σb eb => ⟨σ3, by rw [eb, ea, ← e2]; exact k1, by rw [k61], rfl⟩⟩
  · rw [n1]
    refine ⟨irI (by omega) (by omega), hb', irI (by omega) (by omega), by omega, fun σa ea => ⟨hb', ?_⟩⟩
    have a65 : σa 65 0 a1 = (tN T a1 : Int) := by rw [ea, up_ne (by omega)]; exact n1
    rw [a65]
    exact ⟨irI (by omega) (by omega), hb', fun σb eb => ⟨hb', by rw [eb, up_eq ⟨rfl, rfl, rfl⟩]; rfl, by rw [eb, ea, e4]⟩⟩
/-- wipe -/
theorem ag_28 (a1 : Int) (_ : ir a1) : Agr Inv 28 50 [vi a1] := by
  intro k σ hk hI
  obtain ⟨T, hI⟩ := hI
  obtain ⟨hT, hB, hM, hch, h22, h15, h7, h8⟩ := id hI
  by_cases hb : isB a1
  rotate_left
  · exact ⟨-1, σ, σ, G_rn rfl (b_28_0 (d := 2) ⟨none, σ, s_15n hb, b_28_4n ⟨rfl, rfl⟩⟩), G_rn rfl (b_50_0 (d := 6) ⟨fun q => absurd (ifB.2.mp q) hb, fun _ => ⟨rfl, rfl⟩⟩), Inv.step ⟨T, hI⟩, rfl, rfl⟩
  have hb' := hb
  unfold isB at hb'
  obtain ⟨c1, c2, c3, c4⟩ := hB.1 a1 hb
  obtain ⟨T', eT⟩ : ∃ T' : TP, T' = (T.1, fun b => if b = a1 then 0 else tN T b, T.2.2.1, T.2.2.2) := ⟨_, rfl⟩
  have eS : ∀ b, tS T' b = tS T b := fun b => by rw [eT]
  have eN1 : tN T' a1 = 0 := by rw [eT]; exact if_pos rfl
  have eN : ∀ b, b ≠ a1 → tN T' b = tN T b := fun b w => by rw [eT]; exact if_neg w
  have eG : ∀ b, tG T' b = tG T b := fun b => by rw [eT]
  have eV : ∀ b, tV T' b = tV T b := fun b => by rw [eT]
  have hT' : TOKA T' := fun b hb => by
    obtain ⟨y1, y2, y3, y4⟩ := hT b hb
    rw [eG, eV, eS]
    by_cases w : b = a1
    · subst w
      rw [eN1]
      exact ⟨by omega, y2, y3, fun p hp => by omega⟩
    · rw [eN b w]; exact ⟨y1, y2, y3, y4⟩
  obtain ⟨σ2, e2⟩ : ∃ σ2, σ2 = up σ 6 a1 1 0 := ⟨_, rfl⟩
  have f2 : Fm (fun t i j => i = a1 ∧ t = 6 ∧ j = 1) σ σ2 := by rw [e2]; exact (Fm.rf σ).up (by omega)
  have hC2 : CTx T' σ2 := fun b hb => by
    obtain ⟨y1, y2, y3, y4⟩ := hB.1 b hb
    rw [eG, eV, eS]
    refine ⟨?_, (f2 _ _ _ (by omega)).trans y2, (f2 _ _ _ (by omega)).trans y3, fun p p1 p2 => (f2 _ _ _ (by omega)).trans (y4 p p1 p2)⟩
    by_cases w : b = a1
    · subst w
      rw [eN1, e2]; exact up_eq ⟨rfl, rfl, rfl⟩
    · rw [eN b w, f2 _ _ _ (by omega)]; exact y1
  have e21 : σ2 2 0 1 = σ 2 0 1 := f2 _ _ _ (by omega)
  obtain ⟨σ3, k1, k2, k3, k4, k5, k6⟩ := chg_read (d := 2) hT' hb hB.2.1 (fun c _ w => ⟨eS c, eN c w⟩) f2 (fun t i j w => by omega) hC2 (by rw [e21]; omega)
  have f23 : Fm (fun t i j => t = 6 ∨ t = 37 ∨ Crt t i j) σ σ3 := (f2.mono fun t i j w => by omega).tr (k2.mono fun t i j w => Or.inr (Or.inr w))
  have hM3 : MTx T σ3 := hM.keep f23 (fun t i j w => by unfold Crt at w; omega)
  obtain ⟨n1, n2, n3, n4⟩ := hM3 a1 hb
  obtain ⟨σ4, e4⟩ : ∃ σ4, σ4 = up σ3 65 0 a1 0 := ⟨_, rfl⟩
  have f4 : Fm (fun t _ j => t = 65 ∧ j = a1) σ3 σ4 := by rw [e4]; exact (Fm.rf σ3).up (by omega)
  have hM4 : MTx T' σ4 := fun b hb => by
    obtain ⟨y1, y2, y3, y4⟩ := hM3 b hb
    rw [eG, eV, eS]
    refine ⟨?_, (f4 _ _ _ (by omega)).trans y2, (f4 _ _ _ (by omega)).trans y3, fun p p1 p2 => (f4 _ _ _ (by omega)).trans (y4 p p1 p2)⟩
    by_cases w : b = a1
    · subst w
      rw [eN1, e4]; exact up_eq ⟨rfl, rfl, rfl⟩
    · rw [eN b w, f4 _ _ _ (by omega)]; exact y1
  have g3 : σ3 99 = σ 99 := f99t f23 (fun t i j w => by unfold Crt at w; omega)
  refine ⟨tN T a1, σ3, σ4, G_rn rfl (b_28_0 (d := 2) ⟨some (4, a1), σ, s_15 hb, b_28_4r fun σa ea => ⟨σ3, by rw [ea, ← e2]; exact k1, by rw [c1], rfl⟩⟩), G_rn rfl (b_50_0 (d := 6) ⟨fun _ => ⟨hb', hb', fun σa ea => ⟨by rw [n1], by rw [ea, e4]⟩⟩, fun q => absurd hb (ifB.1.mp q)⟩), chg_fin hI hT' k3 k4 k5 (by rw [k6, e21]) (f23 _ _ _ (by unfold Crt; omega)) (f23 _ _ _ (by unfold Crt; omega)) (h8.keep f23 (fun t i j w => by unfold Crt at w; omega)) f4 (fun t i j w => by omega) hM4, g3, (f99t f4 (fun t i j w => by omega)).trans g3⟩
