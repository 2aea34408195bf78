/-! ===== agreement: kind, well, region, home ===== -/
theorem ifR {l a b : Int} : ((if a ≤ l ∧ l ≤ b then (1 : Int) else 0) = 0 ↔ ¬ (a ≤ l ∧ l ≤ b)) ∧ ((if a ≤ l ∧ l ≤ b then (1 : Int) else 0) ≠ 0 ↔ (a ≤ l ∧ l ≤ b)) := by
  by_cases q : a ≤ l ∧ l ≤ b
  · rw [if_pos q]; constructor <;> constructor <;> intro h
    · exact absurd h (by decide)
    · exact absurd q h
    · exact q
    · exact (by decide)
  · rw [if_neg q]; constructor <;> constructor <;> intro h
    · exact q
    · rfl
    · exact absurd rfl h
    · exact absurd h q
theorem ifP {l n : Int} : ((if 0 ≤ l ∧ l < n then (1 : Int) else 0) = 0 ↔ ¬ (0 ≤ l ∧ l < n)) ∧ ((if 0 ≤ l ∧ l < n then (1 : Int) else 0) ≠ 0 ↔ (0 ≤ l ∧ l < n)) := by
  by_cases q : 0 ≤ l ∧ l < n
  · rw [if_pos q]; constructor <;> constructor <;> intro h
    · exact absurd h (by decide)
    · exact absurd q h
    · exact q
    · exact (by decide)
  · rw [if_neg q]; constructor <;> constructor <;> intro h
    · exact q
    · rfl
    · exact absurd rfl h
    · exact absurd h q
/-- kind -/
theorem ag_31 (a1 a2 : Int) (_ : ir a1) (_ : ir a2) : Agr Inv 31 58 [vi a1, vi a2] := by
  intro k σ hk hI
  obtain ⟨T, hI⟩ := hI
  obtain ⟨hT, hB, hM, hch, -⟩ := id hI
  by_cases hb : isB a1
  rotate_left
  · exact ⟨-1, σ, σ, G_rn rfl (b_31_0 (d := 6) ⟨none, σ, s_15n hb, b_31_4n ⟨rfl, rfl⟩⟩), G_rn rfl (b_58_0 (d := 5) ⟨fun q => absurd (ifB.2.mp q) hb, fun _ => ⟨rfl, rfl⟩⟩), Inv.step ⟨T, hI⟩, rfl, rfl⟩
  have hb' := hb
  unfold isB at hb'
  obtain ⟨c1, -⟩ := hB.1 a1 hb
  obtain ⟨m1, -⟩ := hM a1 hb
  have hn := (hT a1 hb).1
  have i65 : ir (σ 65 0 a1 - 1) := by rw [m1]; exact irI (by omega) (by omega)
  by_cases hp : 0 ≤ a2 ∧ a2 < tN T a1
  rotate_left
  · exact ⟨-2, σ, σ, G_rn rfl (b_31_0 (d := 6) ⟨some (4, a1), σ, s_15 hb, b_31_4r ⟨fun q => absurd (ifP.2.mp q) (by rw [c1]; exact hp), fun _ => ⟨rfl, rfl⟩⟩⟩), G_rn rfl (b_58_0 (d := 5) ⟨fun _ => ⟨by omega, i65, fun q => absurd (ifR.2.mp q) (by rw [m1]; omega), fun _ => ⟨rfl, rfl⟩⟩, fun q => absurd hb (ifB.1.mp q)⟩), Inv.step ⟨T, hI⟩, rfl, rfl⟩
  obtain ⟨p, rfl⟩ : ∃ p : Nat, a2 = p := ⟨a2.toNat, by omega⟩
  have hpn : p < tN T a1 := by omega
  obtain ⟨f, σ2, r1, r2, r3, r4⟩ := m_read (d := 5) hT hb hM
  have e := IsFA_uniq (hB.2.1 a1 hb).1 r2
  have hI2 : Inv (k + 1) σ2 := Inv.step ⟨T, hI.keepM r3 (fun t i j q => by unfold Crd at q; omega)⟩
  have f9 : σ2 99 = σ 99 := f99 r3 (fun i j q => by unfold Crd at q; omega)
  have hfr := (Good_of r2)
  by_cases hf : f = -6
  · have hg := hfr.1.mp hf
    have h9 : σ 5 a1 9 = -6 := e.trans hf
    have hr := (hB.2.1 a1 hb).2 h9
    have hk38 := hB.2.2.1 a1 hb h9
    have hmr := r4 hf
    have hmt : MTx T σ2 := hM.keep r3 (fun t i j q => by unfold Crd at q; omega)
    have h67 := (hmr p hpn).1
    have c39 := c_part hT hb hr hpn
    have e38 : rg 40 (σ 38 a1) (p : Int) = if nmA (tS T a1) p = true then 0 else kdA T a1 p := by rw [rgN (by omega)]; exact hk38 p hpn
    have i1 : ir (40 * a1) := irI (by omega) (by omega)
    have i2 : ir (40 * a1 + p) := irI (by omega) (by omega)
    by_cases hm : nmA (tS T a1) p = true
    · refine ⟨-6, σ, σ2, G_rn rfl (b_31_0 (d := 6) ⟨some (4, a1), σ, s_15 hb, b_31_4r ⟨fun _ => ⟨fun _ => ⟨fun _ => ⟨rfl, rfl⟩, fun q => absurd (by rw [c39, if_pos hm]) q⟩, fun q => absurd h9 q⟩, fun q => absurd (by rw [c1]; exact hp) (ifP.1.mp q)⟩⟩), G_rn rfl (b_58_0 (d := 5) ⟨fun _ => ⟨by omega, i65, fun _ => ⟨f, σ2, r1, fun _ => ⟨i1, i2, by omega, fun q => absurd q ?_, fun _ => ⟨rfl, rfl⟩⟩, fun q => absurd q (by omega)⟩, fun q => absurd (by rw [m1]; omega) (ifR.1.mp q)⟩, fun q => absurd hb (ifB.1.mp q)⟩), hI2, rfl, f9⟩
      rw [h67]; unfold whA; rw [if_pos hm]; decide
    · have hm' : nmA (tS T a1) p = false := by cases h : nmA (tS T a1) p <;> simp_all
      have k1 := m_kindAt (d := 6) hT hb hmt hg hmr hpn hm'
      refine ⟨kdA T a1 p, σ, σ2, G_rn rfl (b_31_0 (d := 6) ⟨some (4, a1), σ, s_15 hb, b_31_4r ⟨fun _ => ⟨fun _ => ⟨fun q => absurd q (by rw [c39, if_neg hm]; decide), fun _ => ⟨by rw [e38, if_neg hm], rfl⟩⟩, fun q => absurd h9 q⟩, fun q => absurd (by rw [c1]; exact hp) (ifP.1.mp q)⟩⟩), G_rn rfl (b_58_0 (d := 5) ⟨fun _ => ⟨by omega, i65, fun _ => ⟨f, σ2, r1, fun _ => ⟨i1, i2, by omega, fun _ => ⟨i1, i2, _, σ2, k1, rfl, rfl⟩, fun q => absurd q ?_⟩, fun q => absurd q (by omega)⟩, fun q => absurd (by rw [m1]; omega) (ifR.1.mp q)⟩, fun q => absurd hb (ifB.1.mp q)⟩), hI2, rfl, f9⟩
      rw [h67]; unfold whA; rw [if_neg hm]
      have := kos_ge hg hpn hm'
      omega
  · have hf0 : 0 ≤ f := by
      rcases r2 with w | w | ⟨j, w1, w2, w3⟩
      · exact absurd w.1 hf
      · have := w.1; omega
      · omega
    exact ⟨-5, σ, σ2, G_rn rfl (b_31_0 (d := 6) ⟨some (4, a1), σ, s_15 hb, b_31_4r ⟨fun _ => ⟨fun q => absurd (e.symm.trans q) hf, fun _ => ⟨rfl, rfl⟩⟩, fun q => absurd (by rw [c1]; exact hp) (ifP.1.mp q)⟩⟩), G_rn rfl (b_58_0 (d := 5) ⟨fun _ => ⟨by omega, i65, fun _ => ⟨f, σ2, r1, fun q => absurd q (by omega), fun _ => ⟨rfl, rfl⟩⟩, fun q => absurd (by rw [m1]; omega) (ifR.1.mp q)⟩, fun q => absurd hb (ifB.1.mp q)⟩), hI2, rfl, f9⟩
/-- well -/
theorem ag_32 : Agr Inv 32 60 [] := by
  intro k σ hk hI
  obtain ⟨T, hI⟩ := hI
  obtain ⟨w, σ1, r1, r2, r3, r4⟩ := hI.settle (d := 2)
  obtain ⟨hT, -, hM, -⟩ := id r3
  obtain ⟨w2, σ2, m1, m2, m3⟩ := m_isWell (d := 3) hT hM
  have hI2 : Inv (k + 1) σ2 := Inv.step ⟨T, r3.keepM m2 (fun t i j q => by unfold Crm at q; omega)⟩
  have g1 : σ1 99 = σ 99 := f99 r2 (fun i j q => by unfold Cse at q; omega)
  have g2 : σ2 99 = σ 99 := (f99 m2 (fun i j q => by unfold Crm at q; omega)).trans g1
  rcases r4 with ⟨a, hW, -⟩ | ⟨a, hW⟩ <;> rcases m3 with ⟨c, hW', -⟩ | ⟨c, hW'⟩
  · exact ⟨1, σ1, σ2, G_rn rfl (b_32_0 (d := 2) ⟨w, σ1, r1, fun q => absurd q (by omega), fun _ => ⟨rfl, rfl⟩⟩), G_rn rfl (b_60_0 (d := 3) ⟨w2, σ2, m1, fun q => absurd q (by omega), fun _ => ⟨rfl, rfl⟩⟩), hI2, g1, g2⟩
  · exact absurd hW hW'
  · exact absurd hW' hW
  · exact ⟨0, σ1, σ2, G_rn rfl (b_32_0 (d := 2) ⟨w, σ1, r1, fun _ => ⟨rfl, rfl⟩, fun q => absurd a q⟩), G_rn rfl (b_60_0 (d := 3) ⟨w2, σ2, m1, fun _ => ⟨rfl, rfl⟩, fun q => absurd c q⟩), hI2, g1, g2⟩
/-- both sides settled -/
theorem both_set {T : TP} {k : Nat} {σ : SS} (hI : InvT T k σ) : ∃ w σ1 σ2, Rn 8 107 [vr 2 0] σ (vi w) σ1 ∧ Rn 8 62 [vr 62 0] σ1 (vi w) σ2 ∧ InvT T k σ1 ∧ InvT T k σ2 ∧ σ1 99 = σ 99 ∧ σ2 99 = σ 99 ∧ Fm Cly σ1 σ2 ∧ ((w = 1 ∧ LyC T σ1 ∧ MW T σ2 ∧ MLay T σ2) ∨ w = 0) := by
  obtain ⟨w, σ1, r1, r2, r3, r4⟩ := hI.settle (d := 2)
  obtain ⟨hT, -, hM, -⟩ := id r3
  obtain ⟨w2, σ2, m1, m2, m3⟩ := m_lay (d := 2) hT hM
  have g1 : σ1 99 = σ 99 := f99 r2 (fun i j q => by unfold Cse at q; omega)
  have g2 : σ2 99 = σ 99 := (f99 m2 (fun i j q => by unfold Cly at q; omega)).trans g1
  have hw : w2 = w := by
    rcases r4 with ⟨a, hW, -⟩ | ⟨a, hW⟩ <;> rcases m3 with ⟨c, hW', -⟩ | ⟨c, hW'⟩
    · omega
    · exact absurd hW hW'
    · exact absurd hW' hW
    · omega
  rw [hw] at m1
  refine ⟨w, σ1, σ2, r1, m1, r3, r3.keepM m2 (fun t i j q => by unfold Cly at q; omega), g1, g2, m2, ?_⟩
  rcases r4 with ⟨a, hW, hL⟩ | ⟨a, hW⟩
  · rcases m3 with ⟨c, hW', h1, h2⟩ | ⟨c, hW'⟩
    · exact Or.inl ⟨a, hL, h1, h2⟩
    · exact absurd hW hW'
  · exact Or.inr a
/-- region -/
theorem ag_34 (a1 a2 : Int) (_ : ir a1) (_ : ir a2) : Agr Inv 34 69 [vi a1, vi a2] := by
  intro k σ hk hI
  obtain ⟨T, hI⟩ := hI
  obtain ⟨hT, hB, hM, hch, -⟩ := id hI
  by_cases hb : isB a1
  rotate_left
  · exact ⟨-1, σ, σ, G_rn rfl (b_34_0 (d := 2) ⟨none, σ, s_15n hb, b_34_4n ⟨rfl, rfl⟩⟩), G_rn rfl (b_69_0 (d := 2) ⟨fun q => absurd (ifB.2.mp q) hb, fun _ => ⟨rfl, rfl⟩⟩), Inv.step ⟨T, hI⟩, rfl, rfl⟩
  have hb' := hb
  unfold isB at hb'
  obtain ⟨c1, -⟩ := hB.1 a1 hb
  obtain ⟨m1, -⟩ := hM a1 hb
  have hn := (hT a1 hb).1
  by_cases hp : 0 ≤ a2 ∧ a2 < tN T a1
  rotate_left
  · have i65 : ir (σ 65 0 a1 - 1) := by rw [m1]; exact irI (by omega) (by omega)
    exact ⟨-2, σ, σ, G_rn rfl (b_34_0 (d := 2) ⟨some (4, a1), σ, s_15 hb, b_34_4r ⟨fun q => absurd (ifP.2.mp q) (by rw [c1]; exact hp), fun _ => ⟨rfl, rfl⟩⟩⟩), G_rn rfl (b_69_0 (d := 2) ⟨fun _ => ⟨by omega, i65, fun q => absurd (ifR.2.mp q) (by rw [m1]; omega), fun _ => ⟨rfl, rfl⟩⟩, fun q => absurd hb (ifB.1.mp q)⟩), Inv.step ⟨T, hI⟩, rfl, rfl⟩
  obtain ⟨p, rfl⟩ : ∃ p : Nat, a2 = p := ⟨a2.toNat, by omega⟩
  have hpn : p < tN T a1 := by omega
  obtain ⟨w, σ1, σ2, r1, r2, h1, h2, g1, g2, hF, h3⟩ := both_set hI
  obtain ⟨mm1, -⟩ := h1.2.2.1 a1 hb
  have i65 : ir (σ1 65 0 a1 - 1) := by rw [mm1]; exact irI (by omega) (by omega)
  rcases h3 with ⟨hw, hL, hMW, hML⟩ | hw
  · obtain ⟨-, -, e74⟩ := lay_eq hL hML
    exact ⟨σ1 47 a1 p, σ1, σ2, G_rn rfl (b_34_0 (d := 2) ⟨some (4, a1), σ, s_15 hb, b_34_4r ⟨fun _ => ⟨w, σ1, r1, fun _ => ⟨by rw [rgN (by omega)], rfl⟩, fun q => absurd q (by omega)⟩, fun q => absurd (by rw [c1]; exact hp) (ifP.1.mp q)⟩⟩), G_rn rfl (b_69_0 (d := 2) ⟨fun _ => ⟨by omega, i65, fun _ => ⟨w, σ2, r2, fun q => absurd q (by omega), fun _ => ⟨irI (by omega) (by omega), irI (by omega) (by omega), by omega, by rw [e74 a1 hb p hpn], rfl⟩⟩, fun q => absurd (by rw [mm1]; omega) (ifR.1.mp q)⟩, fun q => absurd hb (ifB.1.mp q)⟩), Inv.step ⟨T, h2⟩, g1, g2⟩
  · exact ⟨-5, σ1, σ2, G_rn rfl (b_34_0 (d := 2) ⟨some (4, a1), σ, s_15 hb, b_34_4r ⟨fun _ => ⟨w, σ1, r1, fun q => absurd hw q, fun _ => ⟨rfl, rfl⟩⟩, fun q => absurd (by rw [c1]; exact hp) (ifP.1.mp q)⟩⟩), G_rn rfl (b_69_0 (d := 2) ⟨fun _ => ⟨by omega, i65, fun _ => ⟨w, σ2, r2, fun _ => ⟨rfl, rfl⟩, fun q => absurd hw q⟩, fun q => absurd (by rw [mm1]; omega) (ifR.1.mp q)⟩, fun q => absurd hb (ifB.1.mp q)⟩), Inv.step ⟨T, h2⟩, g1, g2⟩
/-- home -/
theorem ag_35 (a1 a2 : Int) (_ : ir a1) (_ : ir a2) : Agr Inv 35 70 [vi a1, vi a2] := by
  intro k σ hk hI
  obtain ⟨T, hI⟩ := hI
  obtain ⟨hT, hB, hM, hch, -⟩ := id hI
  by_cases hb : isB a1
  rotate_left
  · exact ⟨-1, σ, σ, G_rn rfl (b_35_0 (d := 2) ⟨none, σ, s_15n hb, b_35_4n ⟨rfl, rfl⟩⟩), G_rn rfl (b_70_0 (d := 2) ⟨fun q => absurd (ifB.2.mp q) hb, fun _ => ⟨rfl, rfl⟩⟩), Inv.step ⟨T, hI⟩, rfl, rfl⟩
  have hb' := hb
  unfold isB at hb'
  obtain ⟨w, σ1, σ2, r1, r2, h1, h2, g1, g2, hF, h3⟩ := both_set hI
  rcases h3 with ⟨hw, hL, hMW, hML⟩ | hw
  · obtain ⟨-, eLy, -⟩ := lay_eq hL hML
    obtain ⟨e76, e75⟩ := eLy a1 hb
    have h8 := hL.ho a1 hb
    have i1 : ir (2 + σ1 4 a1 8) := irI (by omega) (by omega)
    have i2 : ir (1 + σ2 76 0 a1) := by rw [e76]; exact irI (by omega) (by omega)
    by_cases hr : 2 ≤ a2 ∧ a2 < 2 + σ1 4 a1 8
    · obtain ⟨h, k1, k2⟩ := (hL.2.2.2.2.2 a1 hb).2.2 a2 hr.1 hr.2
      have hn := (hT a1 hb).1
      have := k2.1
      have e := e75 a2 hr.1 hr.2
      have s89 : Rn 8 89 [vr 4 a1, vi a2] σ1 (vi 1) σ1 := G_rn rfl (b_89_0 (d := 7) ⟨fun q => absurd q (by omega), fun _ => ⟨i1, fun q => absurd q (by omega), fun _ => ⟨Or.inr rfl, rfl, rfl⟩⟩⟩)
      refine ⟨h, σ1, σ2, G_rn rfl (b_35_0 (d := 2) ⟨some (4, a1), σ, s_15 hb, b_35_4r ⟨w, σ1, r1, fun _ => ⟨1, σ1, s89, fun q => absurd q (by decide), fun _ => ⟨by rw [rg_in ⟨by omega, by omega⟩, k1], rfl⟩⟩, fun q => absurd q (by omega)⟩⟩), G_rn rfl (b_70_0 (d := 2) ⟨fun _ => ⟨w, σ2, r2, fun _ => ⟨by omega, i2, fun q => absurd (by rw [e76]; omega) (ifR.1.mp q), fun _ => ⟨irI (by omega) (by omega), irI (by omega) (by omega), by omega, irI (by omega) (by omega), ?_⟩⟩, fun q => absurd q (by omega)⟩, fun q => absurd hb (ifB.1.mp q)⟩), Inv.step ⟨T, h2⟩, g1, g2⟩
      rw [e, k1, show 40 * a1 + (h : Int) - 40 * a1 = h by omega]
      exact ⟨irI (by omega) (by omega), rfl, rfl⟩
    · have s89 : Rn 8 89 [vr 4 a1, vi a2] σ1 (vi 0) σ1 := G_rn rfl (b_89_0 (d := 7) ⟨fun q => ⟨Or.inl rfl, rfl, rfl⟩, fun _ => ⟨i1, fun q => ⟨Or.inl rfl, rfl, rfl⟩, fun q => absurd ⟨by omega, q⟩ hr⟩⟩)
      exact ⟨-2, σ1, σ2, G_rn rfl (b_35_0 (d := 2) ⟨some (4, a1), σ, s_15 hb, b_35_4r ⟨w, σ1, r1, fun _ => ⟨0, σ1, s89, fun _ => ⟨rfl, rfl⟩, fun q => absurd rfl q⟩, fun q => absurd q (by omega)⟩⟩), G_rn rfl (b_70_0 (d := 2) ⟨fun _ => ⟨w, σ2, r2, fun _ => ⟨by omega, i2, fun _ => ⟨rfl, rfl⟩, fun q => absurd (ifR.2.mp q) (by rw [e76]; omega)⟩, fun q => absurd q (by omega)⟩, fun q => absurd hb (ifB.1.mp q)⟩), Inv.step ⟨T, h2⟩, g1, g2⟩
  · exact ⟨-5, σ1, σ2, G_rn rfl (b_35_0 (d := 2) ⟨some (4, a1), σ, s_15 hb, b_35_4r ⟨w, σ1, r1, fun q => absurd hw q, fun _ => ⟨rfl, rfl⟩⟩⟩), G_rn rfl (b_70_0 (d := 2) ⟨fun _ => ⟨w, σ2, r2, fun q => absurd hw q, fun _ => ⟨rfl, rfl⟩⟩, fun q => absurd hb (ifB.1.mp q)⟩), Inv.step ⟨T, h2⟩, g1, g2⟩
