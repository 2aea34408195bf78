/-! ===== a call ===== -/
section CALL
variable {T : TP} {β : SS} {g : Nat} {b0 : Int} {d d' : Nat}
theorem m_frame {τ : SS} {h : Nat} {o v r0 r1 : Int} (hh : τ 62 0 24 = (h : Int)) (h5 : h < 16) : Rn (d + 1) 75 [vr 62 0, vi o, vi v, vi r0, vi r1] τ (vi (h : Int)) (up (up (up (up (up τ 82 0 h o) 83 0 h v) 85 0 (44 * (h : Int)) r0) 85 0 (44 * (h : Int) + 1) r1) 62 0 24 ((h : Int) + 1)) := by
  refine G_rn rfl (b_75_0 ⟨by omega, fun τ1 e1 => ?_⟩)
  rw [hh] at e1
  have a1 : τ1 62 0 24 = (h : Int) := by rw [e1, up_ne (by omega)]; exact hh
  rw [a1]
  refine ⟨by omega, fun τ2 e2 => ?_⟩
  have a2 : τ2 62 0 24 = (h : Int) := by rw [e2, up_ne (by omega)]; exact a1
  rw [a2]
  refine ⟨irI (by omega) (by omega), by omega, fun τ3 e3 => ?_⟩
  have a3 : τ3 62 0 24 = (h : Int) := by rw [e3, up_ne (by omega)]; exact a2
  rw [a3]
  refine ⟨irI (by omega) (by omega), irI (by omega) (by omega), by omega, fun τ4 e4 => ?_⟩
  have a4 : τ4 62 0 24 = (h : Int) := by rw [e4, up_ne (by omega)]; exact a3
  rw [a4]
  refine ⟨irI (by omega) (by omega), fun τ5 e5 => ?_⟩
  have a5 : τ5 62 0 24 = (h : Int) + 1 := by rw [e5]; exact up_eq ⟨rfl, rfl, rfl⟩
  rw [a5, show (h : Int) + 1 - 1 = h by omega]
  exact ⟨irI (by omega) (by omega), rfl, by rw [e5, e4, e3, e2, e1]⟩
theorem good_0 {n : Nat} {s : Int → Int} (h : GoodA n s) : 0 < n ∧ nmA s 0 = false := by
  refine ⟨?_, rfl⟩
  rcases Nat.eq_zero_or_pos n with e | e
  · exfalso
    have := h.2.1
    rw [e] at this
    exact absurd (show (1 : Int) = 0 from this) (by decide)
  · exact e
theorem goC (hLy : LyC T β) (hg : g ≤ 2) {σ : SS} {b : Int} {f p : Nat} {L : List SL} (hR : RI T β g b0 σ ((b, f, p, 1) :: L)) (h3 : σ 1 0 12 ≤ 3000) (e : kos (tS T b p) = 9) :
    ∃ σ', Rn (d + 4) 123 [vr 1 0, vr 4 b, vi (f : Int), vi (p : Int)] (up σ 51 0 L.length 2) vu σ' ∧ Out T β g b0 d' σ σ' ((b, f, p, 1) :: L) := by
  obtain ⟨hT, hW, hCW, hLay⟩ := id hLy
  obtain ⟨hF, hc, hh, hS, hSt, hkn, hst, hcl, hres⟩ := id hR
  obtain ⟨x1, x2, x3, x4, x5, x6, x7⟩ := hc.slot
  change isB b at x1
  change f ≤ 12 at x2
  change p < tN T b at x3
  change nmA (tS T b) p = false at x4
  have hin : 1 ≤ inn (kos (tS T b p)) := x6 (by show 1 ≤ (1 : Nat); omega)
  have hlen := hc.len hT hW
  change L.length ≤ 40 * f + p at hlen
  have hn := (hT b x1).1
  have hgood := (hW b x1).1
  have hb' := x1
  unfold isB at hb'
  have kd1 := kid1 hgood x3 x4 hin
  have c0s := c0_spec hgood x3 x4
  have kdc := kd01 hT x1 hgood kd1.1 c0s.2.2.1
  have hkd := kd_eq hgood x3 x4
  rw [if_neg (by omega), if_neg (by omega), if_pos e] at hkd
  have hB := wel_B hW x1 x3 x4
  unfold illB at hB
  rw [if_neg (by omega), if_neg (by omega), if_neg (by omega), if_neg (by omega), if_neg (by omega), if_pos e] at hB
  simp only [decide_eq_false_iff_not, Decidable.not_not] at hB
  have hre : vkA (kdA T b (c0A (tS T b) p)) (σ 1 0 11) (σ 32 0 6) := by
    have h := hres (show 1 ≤ (1 : Nat) by omega)
    rwa [exK_1] at h
  clear hres x5 x6 x7
  rw [hB] at hre
  obtain ⟨ho, hp1⟩ := of_B hgood x3 x4 (kos_9.mp e)
  obtain ⟨o, eo⟩ : ∃ o, o = ofA (tS T b) p := ⟨_, rfl⟩
  rw [← eo] at hkd hB hre ho
  have ho' := ho
  unfold isB at ho'
  have hgo := good_0 (hW o ho).1
  have hosm1 : osm β g ((b, f, p, 1) :: L) = osm β g L + hcB β b p := by show osm β g L + (if 1 ≤ 1 then hcB β b p else 0) = _; rw [if_pos (by omega)]
  have hosm2 : osm β g ((b, f, p, 2) :: L) = osm β g L + hcB β b p := by show osm β g L + (if 1 ≤ 2 then hcB β b p else 0) = _; rw [if_pos (by omega)]
  have hc11 : c1K ((b, f, p, 1) :: L) = c1K L + 1 := by show c1K L + (if (1 : Nat) = 1 then 1 else 0) = _; rw [if_pos rfl]
  have hc12 : c1K ((b, f, p, 2) :: L) = c1K L := by show c1K L + (if (2 : Nat) = 1 then 1 else 0) = _; rw [if_neg (by omega)]; omega
  have hpo1 : poK ((b, f, p, 1) :: L) = poK L + 2 := by show poK L + (if (1 : Nat) = 1 then 2 else _) = _; rw [if_pos rfl]
  have hpo2 : poK ((o, f + 1, 0, 0) :: (b, f, p, 2) :: L) = poK L + 1 := by
    show poK L + (if (2 : Nat) = 1 then 2 else if (2 : Nat) = 2 then 1 else 0) + (if (0 : Nat) = 1 then 2 else if (0 : Nat) = 2 then 1 else 0) = _
    rw [if_neg (by omega), if_pos rfl, if_neg (by omega), if_neg (by omega)]
  rw [hc11] at hcl
  have hh' : σ 1 0 10 = (L.length : Int) + 1 := by rw [hh]; simp
  obtain ⟨σ1, e1⟩ : ∃ σ1, σ1 = up σ 51 0 L.length 2 := ⟨_, rfl⟩
  rw [← e1]
  have f1 : Fm (fun t _ j => t = 51 ∧ j = (L.length : Int)) σ σ1 := by rw [e1]; exact (Fm.rf σ).up ⟨rfl, rfl⟩
  have a1 : ∀ (t : Nat) (j : Int), t ≠ 51 → σ1 t 0 j = σ t 0 j := fun t j h => f1 _ _ _ (by omega)
  have hF1 : Fm Crun β σ1 := hF.tr (f1.mono fun t i j q => by unfold Crun; omega)
  obtain ⟨w1, w2, w3, w4, w5, w6⟩ := CWx hLy hF1 x1 x3
  have hs : rg 40 (σ1 37 b) (p : Int) = 64 := w1.trans (kos_9.mp e)
  have hlen6 : L.length < 560 := by omega
  have r13 : σ1 1 0 13 = σ 1 0 13 := a1 _ _ (by omega)
  have hst2 := hst.1
  by_cases hf : (f : Int) + 1 ≤ 12
  · have hNu := NuOK_facts (hLay.2.2 b x1).1
    have hlt : ∀ q : Nat, q < tN T b → β 47 b q < 42 ∧ (kdA T b q = 1 → nmA (tS T b) q = false → 0 ≤ β 47 b q) := fun q hq => by
      rcases hNu.2.2.1 q hq with w | w
      · exact ⟨by have : nuF β b q = -6 := w.1; change β 47 b q = -6 at this; omega, fun k m => absurd ⟨hq, m, k⟩ w.2⟩
      · exact ⟨by have := w.2.1; change β 47 b q < _ at this; omega, fun _ _ => w.1⟩
    have hCN : β 48 b p = β 47 b (c0A (tS T b) p) := by
      have := ((hLay.2.2 b x1).2.1.2 p x3)
      rwa [if_pos ⟨x4, hin⟩] at this
    have hreg : ∀ (σx : SS) (v : Int), v < 42 → ∃ y, (∀ d, Rn (d + 2) 117 [vr 1 0, vi (f : Int), vi v] σx (vi y) σx) ∧ (0 ≤ v → y = σx 57 0 (42 * (f : Int) + v)) := fun σx v hv => by
      by_cases q : 0 ≤ v
      · exact ⟨_, fun d => c_regF x2 ⟨q, hv⟩, fun _ => rfl⟩
      · exact ⟨-6, fun d => c_regN (by omega), fun w => absurd w q⟩
    obtain ⟨σa, ea⟩ : ∃ σa, σa = up σ1 1 0 13 (σ 1 0 13 + 1) := ⟨_, rfl⟩
    obtain ⟨y0, g0, z0⟩ := hreg σa (β 47 b (c0A (tS T b) p)) (hlt _ kd1.1).1
    obtain ⟨σb, eb⟩ : ∃ σb, σb = up σa 57 0 (42 * ((f + 1 : Nat) : Int) + 0) y0 := ⟨_, rfl⟩
    obtain ⟨y1, g1, z1⟩ := hreg σb (β 47 b p) (hlt p x3).1
    obtain ⟨σc, ec⟩ : ∃ σc, σc = up σb 57 0 (42 * ((f + 1 : Nat) : Int) + 1) y1 := ⟨_, rfl⟩
    obtain ⟨σp, ep⟩ : ∃ σp, σp = up (up σc 54 0 ((f : Int) + 1) o) 55 0 ((f : Int) + 1) (σ 1 0 11) := ⟨_, rfl⟩
    have fa : Fm (fun t _ j => (t = 51 ∧ j = (L.length : Int)) ∨ (t = 1 ∧ j = 13)) σ σa := by rw [ea]; exact (f1.mono fun t i j q => Or.inl q).up (Or.inr ⟨rfl, rfl⟩)
    have fb : Fm (fun t _ j => (t = 51 ∧ j = (L.length : Int)) ∨ (t = 1 ∧ j = 13) ∨ (t = 57 ∧ 42 * (f : Int) + 42 ≤ j ∧ j < 42 * (f : Int) + 44)) σ σb := by rw [eb]; exact (fa.mono fun t i j q => by omega).up (by omega)
    have fc : Fm (fun t _ j => (t = 51 ∧ j = (L.length : Int)) ∨ (t = 1 ∧ j = 13) ∨ (t = 57 ∧ 42 * (f : Int) + 42 ≤ j ∧ j < 42 * (f : Int) + 44)) σ σc := by rw [ec]; exact fb.up (by omega)
    have fp : Fm (fun t _ j => (t = 51 ∧ j = (L.length : Int)) ∨ (t = 1 ∧ j = 13) ∨ (t = 57 ∧ 42 * (f : Int) + 42 ≤ j ∧ j < 42 * (f : Int) + 44) ∨ ((t = 54 ∨ t = 55) ∧ j = (f : Int) + 1)) σ σp := by rw [ep]; exact ((fc.mono fun t i j q => by omega).up (by omega)).up (by omega)
    have hFp : Fm Crun β σp := hF.tr (fp.mono fun t i j q => by unfold Crun; omega)
    have lex : ∀ y, y ∈ L → sF y ≤ f := fun y hy => by
      have hl := hc.lex hW y hy
      change sF y < f ∨ (sF y = f ∧ sP y < p ∧ sB y = b) at hl
      omega
    have e6 : σp 32 0 6 = σ 32 0 6 := fp _ _ _ (by omega)
    have ag : AgC β σ σp L := by
      exact ⟨by rw [e6]; exact Int.le_refl _, fun i hi => ⟨fp _ _ _ (by omega), fp _ _ _ (by omega), fp _ _ _ (by omega), fp _ _ _ (by omega)⟩, fun y hy => by
        have := lex y hy
        exact ⟨fp _ _ _ (by omega), fp _ _ _ (by omega), fp _ _ _ (by omega), fun r _ _ _ => fp _ _ _ (by omega)⟩⟩
    have h511 : σp 51 0 L.length = 2 := by rw [ep, up_ne (by omega), up_ne (by omega), ec, up_ne (by omega), eb, up_ne (by omega), ea, up_ne (by omega), e1]; exact up_eq ⟨rfl, rfl, rfl⟩
    obtain ⟨s1, s2, s3, s4, s5, s6, s7, s8, s9, s10⟩ := hS.1
    change σ 52 0 L.length = f at s1
    change σ 50 0 L.length = p at s2
    change σ 54 0 f = b at s4
    change vkA (tG T b) (σ 55 0 f) _ at s5
    have ot : osm β g L ≤ osm β g ((b, f, p, 2) :: L) := osm_tail _ _ _ _
    have hSp : SKA T β g σp ((b, f, p, 2) :: L) := by
      refine ⟨⟨(fp _ _ _ (by omega)).trans s1, (fp _ _ _ (by omega)).trans s2, h511, (fp 54 0 f (by omega)).trans s4, ?_, fun _ w => by have w' : kos (tS T b p) = 8 := w; omega, fun _ w => by have w' : kos (tS T b p) = 6 := w; omega, fun q => ?_, fun q w => ?_, fun _ r r1 r2 r3 => ?_⟩, hS.2.cong (fun b hb => (hLy.ho b hb).2) hc.tail ag⟩
      · show vkA (tG T b) (σp 55 0 f) _
        rw [fp 55 0 f (by omega), e6]; exact s5
      · show 0 ≤ σp 57 0 (42 * (f : Int)) ∧ σp 57 0 (42 * (f : Int)) < osm β g L
        rw [fp 57 _ _ (by omega)]; exact s8 q
      · show 0 ≤ σp 57 0 (42 * (f : Int) + 1) ∧ σp 57 0 (42 * (f : Int) + 1) < osm β g L
        rw [fp 57 _ _ (by omega)]; exact s9 q w
      · have := (hLy.ho b x1).2
        change r < 2 + β 4 b 8 at r2
        show 0 ≤ σp 57 0 (42 * (f : Int) + r) ∧ σp 57 0 (42 * (f : Int) + r) < osm β g ((b, f, p, 2) :: L)
        rw [fp 57 _ _ (by omega), hosm2, ← hosm1]; exact s10 (by show 1 ≤ (1 : Nat); omega) r r1 r2 r3
    have sx2 : slotOK T (b, f, p, 2) := ⟨x1, x2, x3, x4, Nat.le_refl _, fun _ => hin, fun _ => Or.inr (Or.inr (Or.inr e))⟩
    have hc2 : Chn T b0 ((o, f + 1, 0, 0) :: (b, f, p, 2) :: L) := ⟨⟨ho, by show f + 1 ≤ 12; omega, hgo.1, hgo.2, Nat.zero_le _, fun q => absurd q (by show ¬ 1 ≤ (0 : Nat); omega), fun q => absurd q (by show ¬ (0 : Nat) = 2; omega)⟩, Or.inr ⟨rfl, rfl, e, rfl, eo⟩, hc.set sx2 rfl rfl rfl⟩
    have p54 : σp 54 0 ((f : Int) + 1) = o := by rw [ep, up_ne (by omega)]; exact up_eq ⟨rfl, rfl, rfl⟩
    have p55 : σp 55 0 ((f : Int) + 1) = σ 1 0 11 := by rw [ep]; exact up_eq ⟨rfl, rfl, rfl⟩
    have p570 : σp 57 0 (42 * ((f + 1 : Nat) : Int)) = y0 := by rw [ep, up_ne (by omega), up_ne (by omega), ec, up_ne (by omega), eb]; exact up_eq ⟨rfl, rfl, by omega⟩
    have p571 : σp 57 0 (42 * ((f + 1 : Nat) : Int) + 1) = y1 := by rw [ep, up_ne (by omega), up_ne (by omega), ec]; exact up_eq ⟨rfl, rfl, rfl⟩
    have hr0 : tG T o = 1 → (0 ≤ y0 ∧ y0 < osm β g ((b, f, p, 1) :: L)) ∧ 0 ≤ β 47 b (c0A (tS T b) p) ∧ ∀ τ, MKA T β σ τ ((b, f, p, 1) :: L) → τ 85 0 (44 * (f : Int) + β 47 b (c0A (tS T b) p)) = y0 := fun q => by
      have k1 : kdA T b (c0A (tS T b) p) = 1 := by rw [hB]; exact q
      have h0 := (hlt _ kd1.1).2 k1 c0s.2.2.1
      obtain ⟨r1, r2, r3⟩ := reg_ok hLy hc (show 1 ≤ (1 : Nat) by omega) hS (q := c0A (tS T b) p) kd1.1 h0 ⟨x4, Or.inr ⟨Or.inr e, rfl⟩⟩
      have : y0 = σ 57 0 (42 * (f : Int) + β 47 b (c0A (tS T b) p)) := by rw [z0 h0, fa _ _ _ (by omega)]
      rw [this]
      exact ⟨r2, h0, r3⟩
    have hr1 : tV T o = 1 → (0 ≤ y1 ∧ y1 < osm β g ((b, f, p, 1) :: L)) ∧ 0 ≤ β 47 b p ∧ ∀ τ, MKA T β σ τ ((b, f, p, 1) :: L) → τ 85 0 (44 * (f : Int) + β 47 b p) = y1 := fun q => by
      have k1 : kdA T b p = 1 := by rw [hkd]; exact q
      have h0 := (hlt p x3).2 k1 x4
      have h42 := (hlt p x3).1
      obtain ⟨r1, r2, r3⟩ := reg_ok hLy hc (show 1 ≤ (1 : Nat) by omega) hS (q := p) x3 h0 ⟨x4, Or.inl rfl⟩
      have : y1 = σ 57 0 (42 * (f : Int) + β 47 b p) := by rw [z1 h0, fb _ _ _ (by omega)]
      rw [this]
      exact ⟨r2, h0, r3⟩
    have e13 : σp 1 0 13 = σ 1 0 13 + 1 := by rw [ep, up_ne (by omega), up_ne (by omega), ec, up_ne (by omega), eb, up_ne (by omega), ea]; exact up_eq ⟨rfl, rfl, rfl⟩
    have e12 : σp 1 0 12 = σ 1 0 12 := fp _ _ _ (by omega)
    obtain ⟨σ', r1, r2, r3, r4⟩ := push_ok (d := d) (d' := d' + 2) hLy hc2 rfl hFp (by rw [fp _ _ _ (by omega), hh]; simp) hSp (by rw [hosm2, ← hosm1, e12]; exact hSt.keep fp (fun t i j q => by omega)) ((fp _ _ _ (by omega)).trans hkn) (by rw [e12]; exact hst) (by rw [e12, e13, hc12]; omega) p54 (by rw [show σp 55 0 ((sF ((o, f + 1, 0, 0) : SL) : Nat) : Int) = σ 1 0 11 from p55, e6]; exact hre) (fun q => by rw [show σp 57 0 (42 * ((sF ((o, f + 1, 0, 0) : SL) : Nat) : Int)) = y0 from p570, hosm2, ← hosm1]; exact (hr0 q).1) (fun q w => by rw [show σp 57 0 (42 * ((sF ((o, f + 1, 0, 0) : SL) : Nat) : Int) + 1) = y1 from p571, hosm2, ← hosm1]; exact (hr1 q).1)
    have hcall : Rn (d + 3) 125 [vr 1 0, vr 4 b, vi (f : Int), vi (p : Int)] σ1 vu σ' := by
      refine G_rn rfl (b_125_0 ⟨irI (by omega) (by omega), fun _ => ⟨irI (by omega) (by omega), fun σ2 e2 => ?_⟩, fun q => absurd q (by omega)⟩)
      rw [r13] at e2
      obtain rfl : σa = σ2 := ea.trans e2.symm
      obtain ⟨-, -, -, -, -, v6⟩ := CWx hLy (hF.tr (fa.mono fun t i j q => by unfold Crun; omega)) x1 x3
      rw [v6, hCN]
      refine ⟨y0, σa, g0 d, σb, ?_, ?_⟩
      · rw [eb]; exact c_setR (d := d) (f := f + 1) (by omega) (r := 0) ⟨by omega, by omega⟩
      obtain ⟨-, -, -, -, v5, -⟩ := CWx hLy (hF.tr (fb.mono fun t i j q => by unfold Crun; omega)) x1 x3
      rw [v5]
      refine ⟨y1, σb, g1 d, σc, ?_, fun σ8 e8 σ9 e9 => ⟨σ', ?_, rfl, rfl⟩⟩
      · rw [ec]; exact c_setR (d := d) (f := f + 1) (by omega) (r := 1) ⟨by omega, by omega⟩
      obtain ⟨-, -, -, v4, -, -⟩ := CWx hLy (hF.tr (fc.mono fun t i j q => by unfold Crun; omega)) x1 x3
      rw [v4, if_pos ⟨x4, kos_9.mp e⟩, ← eo, us_in ⟨by omega, by omega⟩] at e8
      have c11 : σ8 1 0 11 = σ 1 0 11 := by rw [e8, up_ne (by omega), fc _ _ _ (by omega)]
      rw [c11, us_in ⟨by omega, by omega⟩, e8, ← ep] at e9
      rw [e9]
      exact r1
    refine ⟨σ', G_rn rfl (b_123_0 ⟨fun q0 q1 q2 q3 q4 q5 => ⟨σ', hcall, rfl, rfl⟩, fun q => absurd (hs.symm.trans q) (by decide), fun q => absurd (hs.symm.trans q) (by decide), fun q => absurd (hs.symm.trans q) (by decide), fun q => absurd (hs.symm.trans q) (by decide), fun q => absurd (hs.symm.trans q) (by decide), fun q => absurd (hs.symm.trans q) (by decide), trivial⟩), Or.inl ⟨_, r2, by rw [r3, e12]; exact h3, by rw [hpo1, hpo2, r3, e12]; omega, fun τ hRR => ?_⟩⟩
    obtain ⟨τ3, e3⟩ : ∃ τ3, τ3 = up τ 80 0 L.length 3 := ⟨_, rfl⟩
    obtain ⟨u1, u2, u3, u4, u5, u6, u7, u8, u9, u10, u11, u12, u13, u14⟩ := m79_f hLy hc hRR e3
    obtain ⟨⟨m1, m2, m3, m4, m5, m6, m7, m8⟩, m9, m10⟩ := id hRR
    obtain ⟨τ4, e4⟩ : ∃ τ4, τ4 = up τ3 62 0 37 (σ 1 0 13 + 1) := ⟨_, rfl⟩
    have g4 : Fm (fun t _ j => t = 62 ∧ j = 37) τ3 τ4 := by rw [e4]; exact (Fm.rf τ3).up ⟨rfl, rfl⟩
    have g34 : Fm (fun t _ j => (t = 80 ∧ j = (L.length : Int)) ∨ (t = 62 ∧ j = 37)) τ τ4 := (u10.mono fun t i j q => Or.inl q).tr (g4.mono fun t i j q => Or.inr q)
    -- the regions that are handed over
    obtain ⟨n0, hn0⟩ : ∃ n0, n0 = (if tG T o = 1 then y0 else 0) := ⟨_, rfl⟩
    obtain ⟨n1, hn1⟩ : ∃ n1, n1 = (if tV T o = 1 then y1 else 0) := ⟨_, rfl⟩
    obtain ⟨τ5, e5⟩ : ∃ τ5, τ5 = up (up (up (up (up τ4 82 0 ((f + 1 : Nat) : Int) o) 83 0 ((f + 1 : Nat) : Int) (σ 1 0 11 + tG T o)) 85 0 (44 * ((f + 1 : Nat) : Int)) n0) 85 0 (44 * ((f + 1 : Nat) : Int) + 1) n1) 62 0 24 (((f + 1 : Nat) : Int) + 1) := ⟨_, rfl⟩
    have h29 : τ4 62 0 29 = σ 1 0 11 + tG T o := by rw [g4 _ _ _ (by omega), u3, hB]
    have hfr := m_frame (d := d' + 2) (τ := τ4) (h := f + 1) (o := o) (v := σ 1 0 11 + tG T o) (r0 := n0) (r1 := n1) (by rw [g4 _ _ _ (by omega), u4]; omega) (by omega)
    rw [← e5] at hfr
    have g5 : Fm (fun t _ j => (t = 80 ∧ j = (L.length : Int)) ∨ (t = 62 ∧ (j = 37 ∨ j = 24)) ∨ ((t = 82 ∨ t = 83) ∧ j = (f : Int) + 1) ∨ (t = 85 ∧ 44 * (f : Int) + 44 ≤ j ∧ j < 44 * (f : Int) + 46)) τ τ5 := by
      rw [e5]; exact ((((((g34.mono fun t i j q => by omega).up (by omega)).up (by omega)).up (by omega)).up (by omega))).up (by omega)
    have agm : AgM β τ τ5 L := by
      exact ⟨fun i hi => ⟨g5 _ _ _ (by omega), g5 _ _ _ (by omega), g5 _ _ _ (by omega), g5 _ _ _ (by omega)⟩, fun y hy => by
        have := lex y hy
        exact ⟨g5 _ _ _ (by omega), g5 _ _ _ (by omega), g5 _ _ _ (by omega), fun r _ _ _ => g5 _ _ _ (by omega)⟩⟩
    obtain ⟨⟨q1, q2, q3, q4, q5, q6, q7, q8, q9, q10, q11, q12⟩, m5'⟩ := id m5
    have hmk : MKA T β σp τ5 ((b, f, p, 2) :: L) := by
      refine ⟨⟨(g5 _ _ _ (by omega)).trans q1, (g5 _ _ _ (by omega)).trans q2, fun q => absurd q (by show ¬ (2 : Nat) = 0; omega), fun q => absurd q (by show ¬ (2 : Nat) = 1; omega), fun _ w => by have w' : kos (tS T b p) = 6 := w; omega, fun _ w => ?_, (g5 82 0 f (by omega)).trans q7, ?_, fun _ w => by have w' : kos (tS T b p) = 8 := w; omega, fun q => ?_, fun q w => ?_, fun _ r r1 r2 r3 => ?_⟩, m5'.cong (fun b hb => (hLy.ho b hb).2) hc.tail ag agm⟩
      · rw [e5, up_ne (by omega), up_ne (by omega), up_ne (by omega), up_ne (by omega), up_ne (by omega), e4, up_ne (by omega), e3]; exact up_eq ⟨rfl, rfl, rfl⟩
      · show τ5 83 0 f = σp 55 0 f + tG T b
        rw [g5 83 0 f (by omega), fp 55 0 f (by omega)]; exact q8
      · show τ5 85 0 (44 * (f : Int)) = σp 57 0 (42 * (f : Int))
        rw [g5 _ _ _ (by omega), fp 57 _ _ (by omega)]; exact q10 q
      · show τ5 85 0 (44 * (f : Int) + 1) = σp 57 0 (42 * (f : Int) + 1)
        rw [g5 _ _ _ (by omega), fp 57 _ _ (by omega)]; exact q11 q w
      · have := (hLy.ho b x1).2
        change r < 2 + β 4 b 8 at r2
        show τ5 85 0 (44 * (f : Int) + r) = σp 57 0 (42 * (f : Int) + r)
        rw [g5 _ _ _ (by omega), fp 57 _ _ (by omega)]; exact q12 (by show 1 ≤ (1 : Nat); omega) r r1 r2 r3
    have d82 : τ5 82 0 ((f + 1 : Nat) : Int) = o := by rw [e5, up_ne (by omega), up_ne (by omega), up_ne (by omega), up_ne (by omega)]; exact up_eq ⟨rfl, rfl, rfl⟩
    have d83 : τ5 83 0 ((f + 1 : Nat) : Int) = σ 1 0 11 + tG T o := by rw [e5, up_ne (by omega), up_ne (by omega), up_ne (by omega)]; exact up_eq ⟨rfl, rfl, rfl⟩
    have d850 : τ5 85 0 (44 * ((f + 1 : Nat) : Int)) = n0 := by rw [e5, up_ne (by omega), up_ne (by omega)]; exact up_eq ⟨rfl, rfl, rfl⟩
    have d851 : τ5 85 0 (44 * ((f + 1 : Nat) : Int) + 1) = n1 := by rw [e5, up_ne (by omega)]; exact up_eq ⟨rfl, rfl, rfl⟩
    have d24 : τ5 62 0 24 = ((f + 1 : Nat) : Int) + 1 := by rw [e5]; exact up_eq ⟨rfl, rfl, rfl⟩
    have d37 : τ5 62 0 37 = σ 1 0 13 + 1 := by rw [e5, up_ne (by omega), up_ne (by omega), up_ne (by omega), up_ne (by omega), up_ne (by omega), e4]; exact up_eq ⟨rfl, rfl, rfl⟩
    obtain ⟨τ', v1, v2, v3⟩ := r4 τ5 ⟨m1.keep hT g5 (fun t i j q => by omega), m2.keep g5 (fun t i j q => by omega), fun b' hb' p' hp' => by rw [g5 _ _ _ (by omega)]; exact m3 b' hb' p' hp', (m4.keepC fp (fun t i j w z => by unfold Csto at z; omega)).keep g5 (fun t i j w z => by unfold Cstm at z; omega), hmk, by rw [g5 _ _ _ (by omega), m6]; simp, by rw [g5 _ _ _ (by omega), m7, e12], by rw [d37, e13]⟩ d24 d82 (by rw [d83]; rw [show σp 55 0 ((sF ((o, f + 1, 0, 0) : SL) : Nat) : Int) = σ 1 0 11 from p55]) (fun q => by rw [show σp 57 0 (42 * ((sF ((o, f + 1, 0, 0) : SL) : Nat) : Int)) = y0 from p570]; refine Eq.trans d850 ?_; rw [hn0]; exact if_pos q) (fun q w => by rw [show σp 57 0 (42 * ((sF ((o, f + 1, 0, 0) : SL) : Nat) : Int) + 1) = y1 from p571]; refine Eq.trans d851 ?_; rw [hn1]; exact if_pos q)
    have mW4 : MW T τ4 := u12.keep hT g4 (fun t i j q => by omega)
    have k66 : τ4 66 0 (40 * b + (p : Int) + 1) = tS T b ((p : Int) + 1) := by
      have := (mW4.1 b x1).2.2.2 ((p : Int) + 1) (by omega) (by omega)
      rwa [show 40 * b + ((p : Int) + 1) = 40 * b + (p : Int) + 1 by omega] at this
    have kof : τ4 66 0 (40 * b + (p : Int) + 1) - 48 = o := by rw [k66, eo]; rfl
    obtain ⟨-, k63, k64, -⟩ := mW4.1 o ho
    have k85 : ∀ j : Int, τ4 85 0 j = τ 85 0 j := fun j => g34 _ _ _ (by omega)
    have k68 : τ4 68 0 (40 * b + p) = 40 * b + c0A (tS T b) p := (g4 _ _ _ (by omega)).trans u1.1
    have k74 : ∀ q : Nat, q < tN T b → τ4 74 0 (40 * b + q) = β 47 b q := fun q hq => (g4 _ _ _ (by omega)).trans (u11 q hq)
    have hc0n := kd1.1
    have h178 : G (d' + 3) (fun v1 σ1 => v1 = vu ∧ σ1 = τ') 79 178 [vr 62 0, vu, vu, vu, vu, vi o, vi n0, vu] [vi n1] τ4 := by
      refine b_79x_178 ⟨_, τ5, by rw [h29]; exact hfr, irI (by omega) (by omega), τ', ?_, b_79x_195 ⟨rfl, rfl⟩⟩
      rw [show (40 : Int) * sB ((o, f + 1, 0, 0) : SL) + ((sP ((o, f + 1, 0, 0) : SL) : Nat) : Int) = 40 * o from Int.add_zero _] at v1
      exact v1
    have h158 : G (d' + 3) (fun v1 σ1 => v1 = vu ∧ σ1 = τ') 79 158 [vr 62 0, vi (f : Int), vi (40 * b + (p : Int)), vu, vu, vi o, vu, vu] [vi n0] τ4 := by
      refine b_79x_158 ⟨by omega, fun q => ?_, fun q => ?_⟩
      · rw [show n1 = 0 by rw [hn1, if_neg (by rw [← k64]; exact q)]] at h178; exact h178
      · rw [k64] at q
        obtain ⟨-, z2, z3⟩ := hr1 q
        have := (hlt p x3).1
        rw [k74 p x3, k85, z3 τ m5]
        rw [show n1 = y1 by rw [hn1, if_pos q]] at h178
        exact ⟨irI (by omega) (by omega), by omega, irI (by omega) (by omega), by omega, h178⟩
    rw [e] at u2
    refine ⟨τ', m80_1 hlen6 hRR (G_rn rfl (b_79x_0 ⟨by omega, by omega, fun τq eq => by
      obtain rfl : τ3 = τq := e3.trans eq.symm
      exact ⟨by omega, fun _ => by rw [u8]; exact ⟨irI (by omega) (by omega), fun τz ez => by
          obtain rfl : τ4 = τz := e4.trans ez.symm
          rw [kof]
          refine ⟨fun q => absurd q (by rw [g4 _ _ _ (by omega), u4]; omega), fun _ => ⟨⟨irI (by omega) (by omega), by omega, irI (by omega) (by omega)⟩, by omega, fun q => ?_, fun q => ?_⟩⟩
          · rw [show n0 = 0 by rw [hn0, if_neg (by rw [← k63]; exact q)]] at h158; exact h158
          · rw [k63] at q
            obtain ⟨-, z2, z3⟩ := hr0 q
            have := (hlt _ kd1.1).1
            rw [k68, k74 _ kd1.1, k85, z3 τ m5]
            rw [show n0 = y0 by rw [hn0, if_pos q]] at h158
            exact ⟨irI (by omega) (by omega), by omega, by omega, irI (by omega) (by omega), by omega, h158⟩⟩, fun q => absurd (u2.symm.trans q) (by decide), fun q => absurd (u2.symm.trans q) (by decide), fun q => absurd (u2.symm.trans q) (by decide), fun q => absurd (u2.symm.trans q) (by decide), fun q => absurd (u2.symm.trans q) (by decide), fun q => absurd (u2.symm.trans q) (by decide), trivial⟩⟩)), v2, (g5.mono fun t i j q => by unfold Cmr; omega).tr v3⟩
  · obtain ⟨σk, ek⟩ : ∃ σk, σk = up σ1 1 0 14 0 := ⟨_, rfl⟩
    have fk : Fm (fun t _ j => (t = 1 ∧ j = 14) ∨ (t = 51 ∧ j = (L.length : Int))) σ σk := by rw [ek]; exact (f1.mono fun t i j q => Or.inr q).up (Or.inl ⟨rfl, rfl⟩)
    refine ⟨σk, G_rn rfl (b_123_0 ⟨fun q0 q1 q2 q3 q4 q5 => ⟨σk, G_rn rfl (b_125_0 ⟨irI (by omega) (by omega), fun q => absurd q hf, fun _ => ⟨Or.inl rfl, fun σ2 e2 => ⟨rfl, by rw [e2, ek]⟩⟩⟩), rfl, rfl⟩, fun q => absurd (hs.symm.trans q) (by decide), fun q => absurd (hs.symm.trans q) (by decide), fun q => absurd (hs.symm.trans q) (by decide), fun q => absurd (hs.symm.trans q) (by decide), fun q => absurd (hs.symm.trans q) (by decide), fun q => absurd (hs.symm.trans q) (by decide), trivial⟩), Or.inr ⟨hF.tr (fk.mono fun t i j q => by unfold Crun; omega), by rw [ek]; exact up_eq ⟨rfl, rfl, rfl⟩, fun τ hRR => ?_⟩⟩
    obtain ⟨τ3, e3⟩ : ∃ τ3, τ3 = up τ 80 0 L.length 3 := ⟨_, rfl⟩
    obtain ⟨u1, u2, u3, u4, u5, u6, u7, u8, u9, u10, u11, u12, u13, u14⟩ := m79_f hLy hc hRR e3
    obtain ⟨τ4, e4⟩ : ∃ τ4, τ4 = up (up τ3 62 0 37 (σ 1 0 13 + 1)) 62 0 30 4000 := ⟨_, rfl⟩
    have g4 : Fm (fun t _ j => t = 62) τ3 τ4 := by rw [e4]; exact ((Fm.rf τ3).up rfl).up rfl
    rw [e] at u2
    refine ⟨τ4, m80_1 hlen6 hRR (G_rn rfl (b_79x_0 ⟨by omega, by omega, fun τq eq => by
      obtain rfl : τ3 = τq := e3.trans eq.symm
      exact ⟨by omega, fun _ => by rw [u8]; exact ⟨irI (by omega) (by omega), fun τy ey => ⟨fun _ τz ez => b_79x_195 ⟨rfl, by rw [ez, ey, e4]⟩, fun q => absurd q (by rw [ey, up_ne (by omega), u4]; omega)⟩⟩, fun q => absurd (u2.symm.trans q) (by decide), fun q => absurd (u2.symm.trans q) (by decide), fun q => absurd (u2.symm.trans q) (by decide), fun q => absurd (u2.symm.trans q) (by decide), fun q => absurd (u2.symm.trans q) (by decide), fun q => absurd (u2.symm.trans q) (by decide), trivial⟩⟩)), Or.inl (by rw [e4, up_eq ⟨rfl, rfl, rfl⟩]; omega), (u10.mono fun t i j q => by unfold Cmr; omega).tr (g4.mono fun t i j q => by unfold Cmr; omega)⟩
end CALL
