/-! ===== goOn: what follows a first term ===== -/
/-- how a turn ends: the run goes on, or it is over on both sides -/
def Out (T : TP) (β : SS) (g : Nat) (b0 : Int) (d' : Nat) (σ σ' : SS) (L : List SL) : Prop :=
  (∃ L', RI T β g b0 σ' L' ∧ σ' 1 0 12 ≤ 3000 ∧ (poK L' : Int) + 3 * σ 1 0 12 + 1 ≤ (poK L : Int) + 3 * σ' 1 0 12 ∧ ∀ τ, RR T β b0 σ τ L → ∃ τ', Rn (d' + 5) 80 [vr 62 0] τ vu τ' ∧ RR T β b0 σ' τ' L' ∧ Fm Cmr τ τ') ∨
  (Fm Crun β σ' ∧ σ' 1 0 14 = 0 ∧ ∀ τ, RR T β b0 σ τ L → ∃ τ', Rn (d' + 5) 80 [vr 62 0] τ vu τ' ∧ (3001 ≤ τ' 62 0 30 ∨ 301 ≤ τ' 62 0 31) ∧ Fm Cmr τ τ')
section GOON
variable {T : TP} {β : SS} {g : Nat} {b0 : Int} {d d' : Nat}
theorem exK_1 {b : Int} {f p : Nat} {L : List SL} : exK T b0 ((b, f, p, 1) :: L) = kdA T b (c0A (tS T b) p) := by
  unfold exK
  exact if_pos (rfl : sS ((b, f, p, 1) : SL) = 1)
theorem c_regF {f : Nat} (hf : f ≤ 12) {σ : SS} {v : Int} (hv : 0 ≤ v ∧ v < 42) : Rn (d + 2) 117 [vr 1 0, vi (f : Int), vi v] σ (vi (σ 57 0 (42 * (f : Int) + v))) σ := by
  refine G_rn rfl (b_117_0 ⟨fun q => absurd q (by omega), fun _ => ⟨irI (by omega) (by omega), irI (by omega) (by omega), ?_, rfl⟩⟩)
  rw [rg_in ⟨by omega, by omega⟩, show (f : Int) * 42 + v = 42 * f + v by omega]
theorem c_regN {f v : Int} {σ : SS} (hv : v < 0) : Rn (d + 2) 117 [vr 1 0, vi f, vi v] σ (vi (-6)) σ := G_rn rfl (b_117_0 ⟨fun _ => ⟨rfl, rfl⟩, fun q => absurd q (by omega)⟩)
/-- the model's turn at a part whose first term is there -/
theorem m80_1 {b : Int} {f p : Nat} {L : List SL} {σ τ : SS} (hl : L.length < 560) (hRR : RR T β b0 σ τ ((b, f, p, 1) :: L)) {τ' : SS} (h : Rn (d' + 4) 79 [vr 62 0, vi (f : Int), vi (40 * b + (p : Int)), vi (L.length : Int)] τ vu τ') : Rn (d' + 5) 80 [vr 62 0] τ vu τ' := by
  obtain ⟨⟨m1, m2, m3, m4, m5, m6, m7, m8⟩, m9, m10⟩ := hRR
  obtain ⟨⟨n1, n2, n3, n4, n5, n6, n7, n8, n9, n10, n11, n12⟩, m5'⟩ := m5
  have h19 : τ 62 0 19 - 1 = (L.length : Int) := by rw [m6]; simp
  have n4' := n4 rfl
  refine G_rn rfl (b_80_0 ?_)
  rw [h19, n4', show τ 78 0 (L.length : Int) = (f : Int) from n1, show τ 79 0 (L.length : Int) = 40 * b + (p : Int) from n2]
  exact ⟨irI (by omega) (by omega), by omega, by omega, by omega, fun q => absurd rfl q, fun _ => ⟨τ', h, rfl, rfl⟩⟩
/-- what the model's heap is, the phase having been set -/
theorem m79_f (hLy : LyC T β) {b : Int} {f p : Nat} {L : List SL} {σ τ τ3 : SS} (hc : Chn T b0 ((b, f, p, 1) :: L)) (hRR : RR T β b0 σ τ ((b, f, p, 1) :: L)) (e3 : τ3 = up τ 80 0 L.length 3) :
    MTp (tN T b) (tS T b) b τ3 p ∧ τ3 67 0 (40 * b + p) = kos (tS T b p) ∧ τ3 62 0 29 = σ 1 0 11 + kdA T b (c0A (tS T b) p) ∧ τ3 62 0 24 = (f : Int) + 1 ∧ τ3 82 0 f = b ∧ τ3 62 0 19 = (L.length : Int) + 1 ∧ τ3 62 0 30 = σ 1 0 12 ∧ τ3 62 0 37 = σ 1 0 13 ∧ SR σ τ3 ∧ Fm (fun t _ j => t = 80 ∧ j = (L.length : Int)) τ τ3 ∧ (∀ q : Nat, q < tN T b → τ3 74 0 (40 * b + q) = β 47 b q) ∧ MW T τ3 ∧ MKA T β σ τ ((b, f, p, 1) :: L) ∧ τ 82 0 f = b := by
  obtain ⟨hT, hW, -⟩ := id hLy
  obtain ⟨⟨m1, m2, m3, m4, m5, m6, m7, m8⟩, m9, m10⟩ := hRR
  have hx := hc.slot
  have g3 : Fm (fun t _ j => t = 80 ∧ j = (L.length : Int)) τ τ3 := by rw [e3]; exact (Fm.rf τ).up ⟨rfl, rfl⟩
  have mW3 : MW T τ3 := m1.keep hT g3 (fun t i j q => by omega)
  obtain ⟨y1, y2, y3⟩ := m_at hT hx.1 (mW3.2 b hx.1) hx.2.2.1 hx.2.2.2.1
  have h24 := m9 (by simp)
  have h82 : τ 82 0 (f : Int) = b := m5.1.2.2.2.2.2.2.1
  have h29 := m10 (show 1 ≤ (1 : Nat) by omega)
  have d1 : ∀ (t : Nat) (j : Int), t ≠ 80 → τ3 t 0 j = τ t 0 j := fun t j h => g3 _ _ _ (by omega)
  refine ⟨y3, y2, ?_, ?_, (d1 _ _ (by omega)).trans h82, ?_, (d1 _ _ (by omega)).trans m7, (d1 _ _ (by omega)).trans m8, m4.keep g3 (fun t i j w z => by unfold Cstm at z; omega), g3, fun q hq => (d1 _ _ (by omega)).trans (m3 b hx.1 q hq), mW3, m5, h82⟩
  · rw [d1 _ _ (by omega), h29, show exK T b0 ((b, f, p, 1) :: L) = kdA T b (c0A (tS T b) p) from exK_1]
  · rw [d1 _ _ (by omega), h24]; show (f : Int) + 1 + (if (1 : Nat) = 2 ∧ _ then 1 else 0) = _; rw [if_neg (by omega)]; omega
  · rw [d1 _ _ (by omega), m6]; simp
theorem go1 (hLy : LyC T β) (hg : g ≤ 2) {σ : SS} {b : Int} {f p : Nat} {L : List SL} (hR : RI T β g b0 σ ((b, f, p, 1) :: L)) (h3 : σ 1 0 12 ≤ 3000) (h9 : kos (tS T b p) ≠ 9) :
    ∃ σ', Rn (d + 4) 123 [vr 1 0, vr 4 b, vi (f : Int), vi (p : Int)] (up σ 51 0 L.length 2) vu σ' ∧ Out T β g b0 d' σ σ' ((b, f, p, 1) :: L) := by
  obtain ⟨hT, hW, hCW, hLay⟩ := id hLy
  obtain ⟨hF, hc, hh, hS, hSt, hkn, hst, hcl, hres⟩ := id hR
  obtain ⟨x1, x2, x3, x4, x5, x6, x7⟩ := hc.slot
  change isB b at x1
  change f ≤ 12 at x2
  change p < tN T b at x3
  change nmA (tS T b) p = false at x4
  have hin : 1 ≤ inn (kos (tS T b p)) := x6 (by show 1 ≤ (1 : Nat); omega)
  have hlen := hc.len hT hW
  change L.length ≤ 40 * f + p at hlen
  have hn := (hT b x1).1
  have hgood := (hW b x1).1
  have hk0 := kos_ge hgood x3 x4
  have hkr := kos_rng (tS T b p)
  have hb' := x1
  unfold isB at hb'
  have kd1 := kid1 hgood x3 x4 hin
  have c0s := c0_spec hgood x3 x4
  have kdc := kd01 hT x1 hgood kd1.1 c0s.2.2.1
  have hkd := kd_eq hgood x3 x4
  have hB := wel_B hW x1 x3 x4
  have hre : vkA (kdA T b (c0A (tS T b) p)) (σ 1 0 11) (σ 32 0 6) := by
    have h := hres (show 1 ≤ (1 : Nat) by omega)
    rwa [show exK T b0 ((b, f, p, 1) :: L) = kdA T b (c0A (tS T b) p) from exK_1] at h
  clear hres x5 x6 x7
  have hosm1 : osm β g ((b, f, p, 1) :: L) = osm β g L + hcB β b p := by show osm β g L + (if 1 ≤ 1 then hcB β b p else 0) = _; rw [if_pos (by omega)]
  have hc11 : c1K ((b, f, p, 1) :: L) = c1K L + 1 := by show c1K L + (if (1 : Nat) = 1 then 1 else 0) = _; rw [if_pos rfl]
  have hpo1 : poK ((b, f, p, 1) :: L) = poK L + 2 := by show poK L + (if (1 : Nat) = 1 then 2 else _) = _; rw [if_pos rfl]
  have hpo2 : ∀ c : Nat, poK ((b, f, c, 0) :: (b, f, p, 2) :: L) = poK L + 1 := fun c => by
    show poK L + (if (2 : Nat) = 1 then 2 else if (2 : Nat) = 2 then 1 else 0) + (if (0 : Nat) = 1 then 2 else if (0 : Nat) = 2 then 1 else 0) = _
    rw [if_neg (by omega), if_pos rfl, if_neg (by omega), if_neg (by omega)]
  rw [hosm1] at hSt
  have hmd := hSt.2.1
  have h58 := hSt.2.2.1
  have hcl2 : 0 ≤ σ 1 0 13 ∧ σ 1 0 13 + c1K L ≤ σ 1 0 12 := by rw [hc11] at hcl; omega
  have hh' : σ 1 0 10 = (L.length : Int) + 1 := by rw [hh]; simp
  obtain ⟨σ1, e1⟩ : ∃ σ1, σ1 = up σ 51 0 L.length 2 := ⟨_, rfl⟩
  rw [← e1]
  have f1 : Fm (fun t _ j => t = 51 ∧ j = (L.length : Int)) σ σ1 := by rw [e1]; exact (Fm.rf σ).up ⟨rfl, rfl⟩
  have a1 : ∀ (t : Nat) (j : Int), t ≠ 51 → σ1 t 0 j = σ t 0 j := fun t j h => f1 _ _ _ (by omega)
  have h511 : σ1 51 0 L.length = 2 := by rw [e1]; exact up_eq ⟨rfl, rfl, rfl⟩
  have hF1 : Fm Crun β σ1 := hF.tr (f1.mono fun t i j q => by unfold Crun; omega)
  obtain ⟨w1, w2, w3, w4, w5, w6⟩ := CWx hLy hF1 x1 x3
  have i30 : ir (3 * (p : Int)) := irI (by omega) (by omega)
  have i31 : ir (3 * (p : Int) + 1) := irI (by omega) (by omega)
  have i32 : ir (3 * (p : Int) + 2) := irI (by omega) (by omega)
  have lv : ∀ σl : SS, Fm (fun t _ j => (t = 1 ∧ j = 11) ∨ (t = 51 ∧ j = (L.length : Int))) σ σl → vkA (kdA T b p) (σl 1 0 11) (σ 32 0 6) → ∃ σ', Rn (d + 3) 122 [vr 1 0, vr 4 b, vi (p : Int)] σl vu σ' ∧ RI T β g b0 σ' L ∧ σ' 1 0 12 = σ 1 0 12 ∧
      ∀ τ τ3, RR T β b0 σ τ ((b, f, p, 1) :: L) → τ3 = up τ 80 0 L.length 3 → ∀ τ4, τ4 = up τ3 62 0 29 (σl 1 0 11 + kdA T b p) → ∃ τ', Rn (d' + 3) 78 [vr 62 0, vi (f : Int), vi (40 * b + (p : Int))] τ4 vu τ' ∧ RR T β b0 σ' τ' L ∧ Fm Cmr τ τ' := by
    intro σl fl hv
    have l6 : σl 32 0 6 = σ 32 0 6 := fl _ _ _ (by omega)
    obtain ⟨σ', r1, r2, r3, r4⟩ := go_leave (d := d) (d' := d') hLy hg hc hS.2 hF fl (fun t i j q => by omega) (by rw [l6]; exact Int.le_refl _) hh' (hSt.keep fl (fun t i j q => by omega)) hkn hst hcl2 (by rw [l6]; exact hv)
    refine ⟨σ', r1, r2, r3, fun τ τ3 hRR e3 τ4 e4 => ?_⟩
    obtain ⟨u1, u2, u3, u4, u5, u6, u7, u8, u9, u10, u11, u12, u13, u14⟩ := m79_f hLy hc hRR e3
    obtain ⟨⟨m1, m2, m3, m4, m5, m6, m7, m8⟩, m9, m10⟩ := hRR
    have g4 : Fm (fun t _ j => t = 62 ∧ j = 29) τ3 τ4 := by rw [e4]; exact (Fm.rf _).up ⟨rfl, rfl⟩
    exact r4 τ τ4 (fun t _ j => (t = 80 ∧ j = (L.length : Int)) ∨ (t = 62 ∧ j = 29)) _ ⟨m1, m2, m3, m4, m5.2, m6, m7, m8⟩ ((u10.mono fun t i j q => Or.inl q).tr (g4.mono fun t i j q => Or.inr q)) (fun t i j q => by omega) ((u9.keepC fl (fun t i j w z => by unfold Csto at z; omega)).keep g4 (fun t i j w z => by unfold Cstm at z; omega)) ((g4 _ _ _ (by omega)).trans u6) ((g4 _ _ _ (by omega)).trans u7) ((g4 _ _ _ (by omega)).trans u8) ((g4 _ _ _ (by omega)).trans u4) ((g4 _ _ _ (by omega)).trans u5) (by rw [e4]; exact up_eq ⟨rfl, rfl, rfl⟩)
  have hlen6 : L.length < 560 := by omega
  have rg5 : rg 300 (σ1 58 0) (σ1 1 0 11) = rg 300 (σ 58 0) (σ 1 0 11) := by rw [a1 _ _ (by omega)]; unfold rg; rw [a1 _ _ (by omega)]
  rcases (show kos (tS T b p) = 3 ∨ kos (tS T b p) = 4 ∨ kos (tS T b p) = 5 ∨ kos (tS T b p) = 6 ∨ kos (tS T b p) = 7 ∨ kos (tS T b p) = 8 by
      have : 3 ≤ kos (tS T b p) := by unfold inn at hin; split at hin <;> omega
      omega) with e | e | e | e | e | e
  · -- new
    have hs : rg 40 (σ1 37 b) (p : Int) = 110 := w1.trans (kos_3.mp e)
    have hkp : kdA T b p = 1 := by rw [hkd, if_pos e]
    unfold illB at hB
    rw [if_neg (by omega), if_pos (Or.inl e)] at hB
    simp only [decide_eq_false_iff_not] at hB
    have hv := hre
    unfold vkA at hv
    have e1c : kdA T b (c0A (tS T b) p) = 0 := by omega
    have h0 : 0 ≤ β 47 b p := by
      rcases (NuOK_facts (hLay.2.2 b x1).1).2.2.1 p x3 with w | w
      · exact absurd ⟨x3, x4, hkp⟩ w.2
      · exact w.1
    obtain ⟨rg1, rg2, rg3⟩ := reg_ok hLy hc (show 1 ≤ (1 : Nat) by omega) hS (q := p) x3 h0 ⟨x4, Or.inl rfl⟩
    change 0 ≤ β 47 b p ∧ β 47 b p < 42 at rg1
    change 0 ≤ σ 57 0 (42 * (f : Int) + β 47 b p) ∧ σ 57 0 (42 * (f : Int) + β 47 b p) < osm β g ((b, f, p, 1) :: L) at rg2
    have h522 := osm_522 (g := g) hT hW (fun b hb => (hLy.ho b hb).2) hg hc
    rw [hosm1] at rg2 h522
    obtain ⟨r, hr⟩ : ∃ r : Nat, σ 57 0 (42 * (f : Int) + β 47 b p) = r := ⟨(σ 57 0 (42 * (f : Int) + β 47 b p)).toNat, by omega⟩
    rw [hr] at rg2
    have hro : r < osm β g L + hcB β b p := by omega
    have hSt1 : StI σ1 (osm β g L + hcB β b p) (2 + 40 * σ 1 0 12) := hSt.keep f1 (fun t i j q => by omega)
    have r11 : σ1 1 0 11 = σ 1 0 11 := a1 _ _ (by omega)
    have m6 : σ1 32 0 6 = σ 32 0 6 := a1 _ _ (by omega)
    have hn9 : 0 ≤ σ 1 0 11 ∧ σ 1 0 11 ≤ 999 := by omega
    have hreg : Rn (d + 3) 117 [vr 1 0, vi (f : Int), vi (rg 40 (σ1 47 b) (p : Int))] σ1 (vi (r : Int)) σ1 := by
      rw [w5, ← hr, ← a1 57 _ (by omega)]
      exact c_regF x2 rg1
    have hmr : ∀ τ τ3, RR T β b0 σ τ ((b, f, p, 1) :: L) → τ3 = up τ 80 0 L.length 3 → τ3 85 0 (44 * (f : Int) + β 47 b p) = r := fun τ τ3 hRR e3 => by
      rw [e3, up_ne (by omega), ← hr]
      exact rg3 τ hRR.1.2.2.2.2.1
    by_cases hm : σ 32 0 6 < 300
    · obtain ⟨σ2, c1, c2⟩ := c_put (d := d) hSt1 (by omega) hro hn9 (by rw [m6]; exact hm)
      rw [m6] at c1
      obtain ⟨σl, el⟩ : ∃ σl, σl = up σ2 1 0 11 (σ 32 0 6) := ⟨_, rfl⟩
      have hinv := c2.inv hSt1 hro hn9 (by rw [m6]; exact hm)
      have f2 : Fm (fun t _ j => t = 58 ∨ t = 59 ∨ t = 60 ∨ (t = 32 ∧ 4 ≤ j ∧ j ≤ 12 ∧ j ≠ 8 ∧ j ≠ 9)) σ1 σ2 := by obtain ⟨w, bs, ws, h1, h2, -⟩ := c2; exact h2
      have s6 : σ2 32 0 6 = σ 32 0 6 + 1 := by obtain ⟨w, bs, ws, h1, h2, h3, h4, h5, -⟩ := c2; rw [h5, m6]
      have fl : Fm (fun t _ j => (t = 1 ∧ j = 11) ∨ (t = 51 ∧ j = (L.length : Int)) ∨ t = 58 ∨ t = 59 ∨ t = 60 ∨ t = 32) σ σl := by
        rw [el]; exact ((f1.mono fun t i j q => by omega).tr (f2.mono fun t i j q => by omega)).up (Or.inl ⟨rfl, rfl⟩)
      have l6 : σl 32 0 6 = σ 32 0 6 + 1 := by rw [el, up_ne (by omega), s6]
      have l11 : σl 1 0 11 = σ 32 0 6 := by rw [el]; exact up_eq ⟨rfl, rfl, rfl⟩
      have hSl : StI σl (osm β g L + hcB β b p) (2 + 40 * σ 1 0 12) := by rw [el]; exact hinv.keep (C := fun t _ _ => t = 1) ((Fm.rf σ2).up rfl) (fun t i j q => by omega)
      obtain ⟨σ', r1, r2, r3, r4⟩ := go_leave (d := d) (d' := d') hLy hg hc hS.2 hF fl (fun t i j q => q) (by omega) hh' hSl hkn hst hcl2 (by rw [l6, l11]; change vkA (kdA T b p) _ _; rw [hkp]; exact Or.inl ⟨rfl, by omega, by omega⟩)
      refine ⟨σ', G_rn rfl (b_123_0 ⟨fun q0 q1 q2 q3 q4 q5 => absurd hs q5, fun q => absurd (hs.symm.trans q) (by decide), fun q => absurd (hs.symm.trans q) (by decide), fun q => absurd (hs.symm.trans q) (by decide), fun q => absurd (hs.symm.trans q) (by decide), fun q => absurd (hs.symm.trans q) (by decide), fun _ => ⟨_, σ1, hreg, σl, G_rn rfl (b_124_0 ⟨fun _ => by rw [r11]; exact ⟨_, σ2, c1, fun σ3 e3 => ⟨rfl, by rw [e3, el]⟩⟩, fun q => absurd q (by rw [m6]; omega)⟩), σ', r1, rfl, rfl⟩, trivial⟩), Or.inl ⟨L, r2, by omega, by rw [hpo1, r3]; omega, fun τ hRR => ?_⟩⟩
      obtain ⟨τ3, e3⟩ : ∃ τ3, τ3 = up τ 80 0 L.length 3 := ⟨_, rfl⟩
      obtain ⟨u1, u2, u3, u4, u5, u6, u7, u8, u9, u10, u11, u12, u13, u14⟩ := m79_f hLy hc hRR e3
      have u85 := hmr τ τ3 hRR e3
      obtain ⟨⟨m1, m2, m3, m4, m5, mm6, m7, m8⟩, m9, m10⟩ := id hRR
      have u9' : SR σ1 τ3 := u9.keepC f1 (fun t i j w z => by unfold Csto at z; omega)
      obtain ⟨τ2, p1, p2, p3⟩ := m_put (d := d' + 2) hSt1 (by omega) hro hn9 (by rw [m6]; exact hm) c2 u9'
      rw [m6] at p1
      obtain ⟨τ4, e4⟩ : ∃ τ4, τ4 = up τ2 62 0 29 (σ 32 0 6 + 1) := ⟨_, rfl⟩
      have g4 : Fm (fun t i j => Cstm t i j ∨ (t = 62 ∧ j = 29)) τ3 τ4 := by rw [e4]; exact (p3.mono fun t i j q => Or.inl q).up (Or.inr ⟨rfl, rfl⟩)
      obtain ⟨τ', v1, v2, v3⟩ := r4 τ τ4 (fun t i j => (t = 80 ∧ j = (L.length : Int)) ∨ Cstm t i j ∨ (t = 62 ∧ j = 29)) _ ⟨m1, m2, m3, m4, m5.2, mm6, m7, m8⟩ ((u10.mono fun t i j q => Or.inl q).tr (g4.mono fun t i j q => Or.inr q)) (fun t i j q => by unfold Cstm at q; omega) (by rw [e4, el]; exact (p2.keepC (C := fun t _ _ => t = 1) ((Fm.rf σ2).up rfl) (fun t i j w z => by unfold Csto at z; omega)).keep (C := fun t _ j => t = 62 ∧ j = 29) ((Fm.rf τ2).up ⟨rfl, rfl⟩) (fun t i j w z => by unfold Cstm at z; omega)) ((g4 _ _ _ (by unfold Cstm; omega)).trans u6) ((g4 _ _ _ (by unfold Cstm; omega)).trans u7) ((g4 _ _ _ (by unfold Cstm; omega)).trans u8) ((g4 _ _ _ (by unfold Cstm; omega)).trans u4) ((g4 _ _ _ (by unfold Cstm; omega)).trans u5) (by rw [e4, l11]; show up τ2 62 0 29 _ 62 0 29 = σ 32 0 6 + kdA T b p; rw [up_eq ⟨rfl, rfl, rfl⟩, hkp])
      rw [e1c, Int.add_zero] at u3
      rw [e] at u2
      have u74 := u11 p x3
      refine ⟨τ', m80_1 hlen6 hRR (G_rn rfl (b_79x_0 ⟨by omega, by omega, fun τq eq => by
      obtain rfl : τ3 = τq := e3.trans eq.symm
      exact ⟨by omega, fun q => absurd q (by rw [u2]; omega), fun _ => by rw [u74, u85, u3]; exact ⟨irI (by omega) (by omega), by omega, irI (by omega) (by omega), by omega, _, τ2, p1, fun τ5 e5 => ⟨τ', by rw [e5, ← e4]; exact v1, b_79x_195 ⟨rfl, rfl⟩⟩⟩, fun q => absurd (u2.symm.trans q) (by decide), fun q => absurd (u2.symm.trans q) (by decide), fun q => absurd (u2.symm.trans q) (by decide), fun q => absurd (u2.symm.trans q) (by decide), fun q => absurd (u2.symm.trans q) (by decide), trivial⟩⟩)), v2, v3⟩
    · have h300 : σ 32 0 6 = 300 := by omega
      obtain ⟨σk, ek⟩ : ∃ σk, σk = up σ1 1 0 14 0 := ⟨_, rfl⟩
      have fk : Fm (fun t _ j => (t = 1 ∧ j = 14) ∨ (t = 51 ∧ j = (L.length : Int))) σ σk := by rw [ek]; exact (f1.mono fun t i j q => Or.inr q).up (Or.inl ⟨rfl, rfl⟩)
      obtain ⟨l1, l2, l3⟩ := c_leave (d := d) hLy x1 (σ := σk) (hF.tr (fk.mono fun t i j q => by unfold Crun; omega)) ((fk _ _ _ (by omega)).trans hh') (by omega) (hSt.keep fk (fun t i j q => by omega)) (by omega)
      refine ⟨_, G_rn rfl (b_123_0 ⟨fun q0 q1 q2 q3 q4 q5 => absurd hs q5, fun q => absurd (hs.symm.trans q) (by decide), fun q => absurd (hs.symm.trans q) (by decide), fun q => absurd (hs.symm.trans q) (by decide), fun q => absurd (hs.symm.trans q) (by decide), fun q => absurd (hs.symm.trans q) (by decide), fun _ => ⟨_, σ1, hreg, σk, G_rn rfl (b_124_0 ⟨fun q => absurd q (by rw [m6]; omega), fun _ => ⟨Or.inl rfl, fun σ3 e3 => ⟨rfl, by rw [e3, ek]⟩⟩⟩), _, l1, rfl, rfl⟩, trivial⟩), Or.inr ⟨(hF.tr (fk.mono fun t i j q => by unfold Crun; omega)).tr (l3.mono fun t i j q => by unfold Crun; omega), (l3 _ _ _ (by omega)).trans (by rw [ek]; exact up_eq ⟨rfl, rfl, rfl⟩), fun τ hRR => ?_⟩⟩
      obtain ⟨τ3, e3⟩ : ∃ τ3, τ3 = up τ 80 0 L.length 3 := ⟨_, rfl⟩
      obtain ⟨u1, u2, u3, u4, u5, u6, u7, u8, u9, u10, u11, u12, u13, u14⟩ := m79_f hLy hc hRR e3
      have u85 := hmr τ τ3 hRR e3
      obtain ⟨⟨m1, m2, m3, m4, m5, mm6, m7, m8⟩, m9, m10⟩ := id hRR
      obtain ⟨τ2, p1, p2⟩ := m_putX (d := d' + 2) (τ := τ3) (r := (r : Int)) (n := σ 1 0 11) (u9.2.2.2.1.trans h300)
      obtain ⟨τ4, e4⟩ : ∃ τ4, τ4 = up τ2 62 0 29 0 := ⟨_, rfl⟩
      have g4 : Fm (fun t _ j => t = 62 ∧ (j = 29 ∨ j = 31)) τ3 τ4 := by rw [e4, p2]; exact ((Fm.rf τ3).up ⟨rfl, Or.inr rfl⟩).up ⟨rfl, Or.inl rfl⟩
      have hz : SRz 301 σ τ4 := by
        obtain ⟨z1, z2, z3, z4, z5, z6, z7, z8, z9, z10, z11, z12⟩ := u9
        exact ⟨(g4 _ _ _ (by omega)).trans z1, fun r r1 r2 => by rw [g4 _ _ _ (by omega), g4 _ _ _ (by omega)]; exact z2 r r1 r2, fun i i1 i2 => by rw [g4 _ _ _ (by omega)]; exact z3 i i1 i2, by rw [e4, up_ne (by omega), p2]; exact up_eq ⟨rfl, rfl, rfl⟩, (g4 _ _ _ (by omega)).trans z5, (g4 _ _ _ (by omega)).trans z6, (g4 _ _ _ (by omega)).trans z7, (g4 _ _ _ (by omega)).trans z8, (g4 _ _ _ (by omega)).trans z9, (g4 _ _ _ (by omega)).trans z10, (g4 _ _ _ (by omega)).trans z11, (g4 _ _ _ (by omega)).trans z12⟩
      have hSt' := hSt
      rw [hc_cH] at hSt' h522
      have h8 := hLy.ho b x1
      obtain ⟨τ5, k1, k2, k3⟩ := m_closeLoopZ (f := f) (d := d') x1 h8 (β 4 b 8).toNat 2 σ τ4 _ _ ((m2.keep u10 (fun t i j q => by omega)).keep g4 (fun t i j q => by omega)) hz hSt' (by omega) (Int.le_refl _) (by omega)
      have h82 : τ4 82 0 f = b := (g4 _ _ _ (by omega)).trans u5
      have h19 : τ5 62 0 19 = (L.length : Int) + 1 := (k2 _ _ _ (by unfold Cstm; omega)).trans ((g4 _ _ _ (by omega)).trans u6)
      have v0 : Rn (d' + 2) 77 [vr 62 0, vi (f : Int), vi (40 * b + (p : Int)), vi 0] τ4 vu τ5 := G_rn rfl (b_77_0 ⟨by omega, by rw [h82]; exact k3 _ ⟨rfl, rfl⟩⟩)
      have v1 : Rn (d' + 3) 78 [vr 62 0, vi (f : Int), vi (40 * b + (p : Int))] τ4 vu (up τ5 62 0 19 (L.length : Int)) := G_rn rfl (b_78_0 ⟨τ5, v0, by rw [h19]; exact irI (by omega) (by omega), fun τ6 e6 => ⟨rfl, by rw [e6, h19, show (L.length : Int) + 1 - 1 = L.length by omega]⟩⟩)
      rw [e1c, Int.add_zero] at u3
      rw [e] at u2
      have u74 := u11 p x3
      refine ⟨_, m80_1 hlen6 hRR (G_rn rfl (b_79x_0 ⟨by omega, by omega, fun τq eq => by
      obtain rfl : τ3 = τq := e3.trans eq.symm
      exact ⟨by omega, fun q => absurd q (by rw [u2]; omega), fun _ => by rw [u74, u85, u3]; exact ⟨irI (by omega) (by omega), by omega, irI (by omega) (by omega), by omega, _, τ2, p1, fun τ7 e7 => ⟨_, by rw [e7, ← e4]; exact v1, b_79x_195 ⟨rfl, rfl⟩⟩⟩, fun q => absurd (u2.symm.trans q) (by decide), fun q => absurd (u2.symm.trans q) (by decide), fun q => absurd (u2.symm.trans q) (by decide), fun q => absurd (u2.symm.trans q) (by decide), fun q => absurd (u2.symm.trans q) (by decide), trivial⟩⟩)), Or.inr (by rw [up_ne (by omega), k1.2.2.2.1]; omega), ?_⟩
      exact ((u10.mono fun t i j q => by unfold Cmr; omega).tr ((g4.mono fun t i j q => by unfold Cmr; omega).tr (k2.mono fun t i j q => by unfold Cstm at q; unfold Cmr; omega))).up (by unfold Cmr; omega)
  · -- look
    have hs : rg 40 (σ1 37 b) (p : Int) = 42 := w1.trans (kos_4.mp e)
    have hkp : kdA T b p = 0 := by rw [hkd, if_neg (by omega), if_neg (by omega), if_neg (by omega), if_neg (by omega), if_neg (by omega)]
    unfold illB at hB
    rw [if_neg (by omega), if_neg (by omega), if_pos e] at hB
    simp only [decide_eq_false_iff_not] at hB
    have hv := hre
    unfold vkA at hv
    have h5 := h58 (σ 1 0 11) (by omega) (by omega)
    have e5 : rg 300 (σ 58 0) (σ 1 0 11) = σ 58 0 (σ 1 0 11) := rg_in ⟨by omega, by omega⟩
    have fl : Fm (fun t _ j => (t = 1 ∧ j = 11) ∨ (t = 51 ∧ j = (L.length : Int))) σ (up σ1 1 0 11 (σ 58 0 (σ 1 0 11))) := (f1.mono fun t i j q => Or.inr q).up (Or.inl ⟨rfl, rfl⟩)
    obtain ⟨σ', r1, r2, r3, r4⟩ := lv (up σ1 1 0 11 (σ 58 0 (σ 1 0 11))) fl (by rw [up_eq ⟨rfl, rfl, rfl⟩, hkp]; exact Or.inr ⟨by omega, h5⟩)
    refine ⟨σ', G_rn rfl (b_123_0 ⟨fun q0 q1 q2 q3 q4 q5 => absurd hs q0, fun _ => by rw [rg5, e5]; exact fun σ2 e2 => ⟨σ', by rw [e2]; exact r1, rfl, rfl⟩, fun q => absurd (hs.symm.trans q) (by decide), fun q => absurd (hs.symm.trans q) (by decide), fun q => absurd (hs.symm.trans q) (by decide), fun q => absurd (hs.symm.trans q) (by decide), fun q => absurd (hs.symm.trans q) (by decide), trivial⟩), Or.inl ⟨L, r2, by omega, by rw [hpo1, r3]; omega, fun τ hRR => ?_⟩⟩
    obtain ⟨τ3, e3⟩ : ∃ τ3, τ3 = up τ 80 0 L.length 3 := ⟨_, rfl⟩
    obtain ⟨u1, u2, u3, u4, u5, u6, u7, u8, u9, u10, u11, u12, u13, u14⟩ := m79_f hLy hc hRR e3
    obtain ⟨τ', v1, v2, v3⟩ := r4 τ τ3 hRR e3 _ rfl
    rw [up_eq ⟨rfl, rfl, rfl⟩, hkp, Int.add_zero] at v1
    have u86 := u9.2.2.1 (σ 1 0 11) (by omega) (by omega)
    have e1c : kdA T b (c0A (tS T b) p) = 1 := by omega
    rw [e1c] at u3
    rw [e] at u2
    refine ⟨τ', m80_1 hlen6 hRR (G_rn rfl (b_79x_0 ⟨by omega, by omega, fun τq eq => by
      obtain rfl : τ3 = τq := e3.trans eq.symm
      exact ⟨by omega, fun q => absurd q (by rw [u2]; omega), fun q => absurd (u2.symm.trans q) (by decide), fun _ => ⟨by rw [u3]; omega, fun τ5 e5' => ⟨τ', by rw [e5', u3, u86]; exact v1, b_79x_195 ⟨rfl, rfl⟩⟩⟩, fun q => absurd (u2.symm.trans q) (by decide), fun q => absurd (u2.symm.trans q) (by decide), fun q => absurd (u2.symm.trans q) (by decide), fun q => absurd (u2.symm.trans q) (by decide), trivial⟩⟩)), v2, v3⟩
  · -- less
    have hs : rg 40 (σ1 37 b) (p : Int) = 45 := w1.trans (kos_5.mp e)
    have hkp : kdA T b p = 0 := by rw [hkd, if_neg (by omega), if_neg (by omega), if_neg (by omega), if_neg (by omega), if_neg (by omega)]
    unfold illB at hB
    rw [if_neg (by omega), if_pos (Or.inr e)] at hB
    simp only [decide_eq_false_iff_not] at hB
    have hv := hre
    unfold vkA at hv
    have e1c : kdA T b (c0A (tS T b) p) = 0 := by omega
    have fl : Fm (fun t _ j => (t = 1 ∧ j = 11) ∨ (t = 51 ∧ j = (L.length : Int))) σ (up σ1 1 0 11 (max 0 (σ 1 0 11 - 1))) := (f1.mono fun t i j q => Or.inr q).up (Or.inl ⟨rfl, rfl⟩)
    obtain ⟨σ', r1, r2, r3, r4⟩ := lv (up σ1 1 0 11 (max 0 (σ 1 0 11 - 1))) fl (by rw [up_eq ⟨rfl, rfl, rfl⟩, hkp]; exact Or.inr ⟨by omega, by omega, by omega⟩)
    have r11 : σ1 1 0 11 = σ 1 0 11 := a1 _ _ (by omega)
    refine ⟨σ', G_rn rfl (b_123_0 ⟨fun q0 q1 q2 q3 q4 q5 => absurd hs q2, fun q => absurd (hs.symm.trans q) (by decide), fun q => absurd (hs.symm.trans q) (by decide), fun _ => by rw [r11]; exact ⟨irI (by omega) (by omega), fun σ2 e2 => ⟨σ', by rw [e2]; exact r1, rfl, rfl⟩⟩, fun q => absurd (hs.symm.trans q) (by decide), fun q => absurd (hs.symm.trans q) (by decide), fun q => absurd (hs.symm.trans q) (by decide), trivial⟩), Or.inl ⟨L, r2, by omega, by rw [hpo1, r3]; omega, fun τ hRR => ?_⟩⟩
    obtain ⟨τ3, e3⟩ : ∃ τ3, τ3 = up τ 80 0 L.length 3 := ⟨_, rfl⟩
    obtain ⟨u1, u2, u3, u4, u5, u6, u7, u8, u9, u10, u11, u12, u13, u14⟩ := m79_f hLy hc hRR e3
    obtain ⟨τ', v1, v2, v3⟩ := r4 τ τ3 hRR e3 _ rfl
    rw [up_eq ⟨rfl, rfl, rfl⟩, hkp, Int.add_zero] at v1
    rw [e1c, Int.add_zero] at u3
    rw [e] at u2
    have fin : ∀ v, v = max 0 (σ 1 0 11 - 1) → G (d' + 3) (fun v1 σ1 => v1 = vu ∧ σ1 = τ') 79 59 [vr 62 0, vi (f : Int), vi (40 * b + (p : Int)), vu, vu, vu, vu, vu] [vi v, vr 62 0] τ3 := fun v hv => b_79x_59 fun τ5 e5 => ⟨τ', by rw [e5, hv]; exact v1, b_79x_195 ⟨rfl, rfl⟩⟩
    refine ⟨τ', m80_1 hlen6 hRR (G_rn rfl (b_79x_0 ⟨by omega, by omega, fun τq eq => by
      obtain rfl : τ3 = τq := e3.trans eq.symm
      exact ⟨by omega, fun q => absurd q (by rw [u2]; omega), fun q => absurd (u2.symm.trans q) (by decide), fun q => absurd (u2.symm.trans q) (by decide), fun _ => by rw [u3]; exact ⟨fun q => fin 0 (by omega), fun q => ⟨irI (by omega) (by omega), fin _ (by omega)⟩⟩, fun q => absurd (u2.symm.trans q) (by decide), fun q => absurd (u2.symm.trans q) (by decide), fun q => absurd (u2.symm.trans q) (by decide), trivial⟩⟩)), v2, v3⟩
  · -- sum
    have sx2 : slotOK T (b, f, p, 2) := ⟨x1, x2, x3, x4, Nat.le_refl _, fun _ => hin, fun _ => by show kos (tS T b p) = 6 ∨ kos (tS T b p) = 7 ∨ kos (tS T b p) = 8 ∨ kos (tS T b p) = 9; omega⟩
    have hcx2 : Chn T b0 ((b, f, p, 2) :: L) := hc.set sx2 rfl rfl rfl
    have kd2 := kid2 hgood x3 x4 (by rw [e]; decide)
    have hcc1 : Chn T b0 ((b, f, c1A (tN T b) (tS T b) p, 0) :: (b, f, p, 2) :: L) := ⟨⟨x1, x2, kd2.1, kd1.2.2.2.2.1, Nat.zero_le _, fun q => absurd q (by show ¬ 1 ≤ (0 : Nat); omega), fun q => absurd q (by show ¬ (0 : Nat) = 2; omega)⟩, Or.inl ⟨rfl, rfl, Or.inr (Or.inl ⟨rfl, Or.inl e, rfl⟩)⟩, hcx2⟩
    have hs : rg 40 (σ1 37 b) (p : Int) = 43 := w1.trans (kos_6.mp e)
    unfold illB at hB
    rw [if_neg (by omega), if_neg (by omega), if_neg (by omega), if_pos e, Bool.or_eq_false_iff] at hB
    simp only [decide_eq_false_iff_not] at hB
    have hv := hre
    unfold vkA at hv
    have e1c : kdA T b (c0A (tS T b) p) = 0 := by omega
    obtain ⟨σp, ep⟩ : ∃ σp, σp = up σ1 53 0 L.length (σ 1 0 11) := ⟨_, rfl⟩
    have fp : Fm (fun t _ j => (t = 51 ∨ t = 53) ∧ j = (L.length : Int)) σ σp := by rw [ep]; exact (f1.mono fun t i j q => by omega).up ⟨Or.inr rfl, rfl⟩
    obtain ⟨-, w2', -⟩ := CWx hLy (hF.tr (fp.mono fun t i j q => by unfold Crun; omega)) x1 x3
    have wc : rg 120 (σp 41 b) (3 * (p : Int) + 1) = c1A (tN T b) (tS T b) p := w2' x4 1 (by rw [e]; decide)
    have p53 : σp 53 0 L.length = σ 1 0 11 := by rw [ep]; exact up_eq ⟨rfl, rfl, rfl⟩
    obtain ⟨σ', r1, r2, r3, r4⟩ := go_push (d := d) (d' := d') hLy hR fp (fun t i j q => Or.inl q) (by rw [ep, up_ne (by omega)]; exact h511) (fun q => by omega) (fun _ => by rw [p53]; omega) hcc1
    have r11 : σ1 1 0 11 = σ 1 0 11 := a1 _ _ (by omega)
    have r10 : σ1 1 0 10 - 1 = (L.length : Int) := by rw [a1 _ _ (by omega), hh']; omega
    refine ⟨σ', G_rn rfl (b_123_0 ⟨fun q0 q1 q2 q3 q4 q5 => absurd hs q1, fun q => absurd (hs.symm.trans q) (by decide), fun _ => by rw [r11, r10]; exact ⟨irI (by omega) (by omega), fun σ2 e2 => ⟨⟨i30, i31⟩, σ', by rw [us_in ⟨by omega, by omega⟩] at e2; rw [e2, ← ep, wc]; exact r1, rfl, rfl⟩⟩, fun q => absurd (hs.symm.trans q) (by decide), fun q => absurd (hs.symm.trans q) (by decide), fun q => absurd (hs.symm.trans q) (by decide), fun q => absurd (hs.symm.trans q) (by decide), trivial⟩), Or.inl ⟨_, r2, by omega, by rw [hpo1, r3, hpo2]; omega, fun τ hRR => ?_⟩⟩
    obtain ⟨τ3, e3⟩ : ∃ τ3, τ3 = up τ 80 0 L.length 3 := ⟨_, rfl⟩
    obtain ⟨u1, u2, u3, u4, u5, u6, u7, u8, u9, u10, u11, u12, u13, u14⟩ := m79_f hLy hc hRR e3
    rw [e1c, Int.add_zero] at u3
    obtain ⟨τ9, e9⟩ : ∃ τ9, τ9 = up (up τ3 81 0 L.length (σ 1 0 11)) 80 0 L.length 2 := ⟨_, rfl⟩
    have g9 : Fm (fun t _ j => (t = 80 ∨ t = 81) ∧ j = (L.length : Int)) τ τ9 := by rw [e9]; exact ((u10.mono fun t i j q => by omega).up ⟨Or.inr rfl, rfl⟩).up ⟨Or.inl rfl, rfl⟩
    obtain ⟨τ', v1, v2, v3⟩ := r4 τ τ9 _ hRR g9 (fun t i j q => Or.inl q) (fun _ => ⟨by rw [e9]; exact up_eq ⟨rfl, rfl, rfl⟩, by rw [e9, up_ne (by omega), up_eq ⟨rfl, rfl, rfl⟩, p53]⟩) (fun q => absurd e q) (fun q => by omega)
    have u69 := u1.2.1 hin
    rw [e] at u2
    refine ⟨τ', m80_1 hlen6 hRR (G_rn rfl (b_79x_0 ⟨by omega, by omega, fun τq eq => by
      obtain rfl : τ3 = τq := e3.trans eq.symm
      exact ⟨by omega, fun q => absurd q (by rw [u2]; omega), fun q => absurd (u2.symm.trans q) (by decide), fun q => absurd (u2.symm.trans q) (by decide), fun q => absurd (u2.symm.trans q) (by decide), fun _ => ⟨by omega, fun τ8 e8 => ⟨by omega, fun τz ez => ⟨by omega, τ', by rw [e8, u3] at ez; rw [ez, up_ne (by omega), up_ne (by omega), u69, ← e9]; exact v1, b_79x_195 ⟨rfl, rfl⟩⟩⟩⟩, fun q => absurd (u2.symm.trans q) (by decide), fun q => absurd (u2.symm.trans q) (by decide), trivial⟩⟩)), v2, v3⟩
  · -- choice
    have sx2 : slotOK T (b, f, p, 2) := ⟨x1, x2, x3, x4, Nat.le_refl _, fun _ => hin, fun _ => by show kos (tS T b p) = 6 ∨ kos (tS T b p) = 7 ∨ kos (tS T b p) = 8 ∨ kos (tS T b p) = 9; omega⟩
    have hcx2 : Chn T b0 ((b, f, p, 2) :: L) := hc.set sx2 rfl rfl rfl
    have kd2 := kid2 hgood x3 x4 (by rw [e]; decide)
    have hcc1 : Chn T b0 ((b, f, c1A (tN T b) (tS T b) p, 0) :: (b, f, p, 2) :: L) := ⟨⟨x1, x2, kd2.1, kd1.2.2.2.2.1, Nat.zero_le _, fun q => absurd q (by show ¬ 1 ≤ (0 : Nat); omega), fun q => absurd q (by show ¬ (0 : Nat) = 2; omega)⟩, Or.inl ⟨rfl, rfl, Or.inr (Or.inr ⟨rfl, e, Or.inl rfl⟩)⟩, hcx2⟩
    have hcc2 : Chn T b0 ((b, f, c2A (tN T b) (tS T b) p, 0) :: (b, f, p, 2) :: L) := ⟨⟨x1, x2, (kids3 hgood x3 x4 (by rw [e]; decide)).1, kd2.2.2.2.2.1, Nat.zero_le _, fun q => absurd q (by show ¬ 1 ≤ (0 : Nat); omega), fun q => absurd q (by show ¬ (0 : Nat) = 2; omega)⟩, Or.inl ⟨rfl, rfl, Or.inr (Or.inr ⟨rfl, e, Or.inr rfl⟩)⟩, hcx2⟩
    have hs : rg 40 (σ1 37 b) (p : Int) = 63 := w1.trans (kos_7.mp e)
    unfold illB at hB
    rw [if_neg (by omega), if_neg (by omega), if_neg (by omega), if_neg (by omega), if_pos e, Bool.or_eq_false_iff] at hB
    simp only [decide_eq_false_iff_not] at hB
    have hv := hre
    unfold vkA at hv
    have e1c : kdA T b (c0A (tS T b) p) = 0 := by omega
    have wc1 : rg 120 (σ1 41 b) (3 * (p : Int) + 1) = c1A (tN T b) (tS T b) p := w2 x4 1 (by rw [e]; decide)
    have wc2 : rg 120 (σ1 41 b) (3 * (p : Int) + 2) = c2A (tN T b) (tS T b) p := w2 x4 2 (by rw [e]; decide)
    have r11 : σ1 1 0 11 = σ 1 0 11 := a1 _ _ (by omega)
    by_cases hz : σ 1 0 11 = 0
    · obtain ⟨σ', r1, r2, r3, r4⟩ := go_push (d := d) (d' := d') hLy hR f1 (fun t i j q => Or.inl ⟨Or.inl q.1, q.2⟩) h511 (fun q => by omega) (fun q => by omega) hcc2
      refine ⟨σ', G_rn rfl (b_123_0 ⟨fun q0 q1 q2 q3 q4 q5 => absurd hs q3, fun q => absurd (hs.symm.trans q) (by decide), fun q => absurd (hs.symm.trans q) (by decide), fun q => absurd (hs.symm.trans q) (by decide), fun _ => by rw [r11]; exact ⟨fun _ => ⟨⟨i30, i32⟩, σ', by rw [wc2]; exact r1, rfl, rfl⟩, fun q => absurd hz q⟩, fun q => absurd (hs.symm.trans q) (by decide), fun q => absurd (hs.symm.trans q) (by decide), trivial⟩), Or.inl ⟨_, r2, by omega, by rw [hpo1, r3, hpo2]; omega, fun τ hRR => ?_⟩⟩
      obtain ⟨τ3, e3⟩ : ∃ τ3, τ3 = up τ 80 0 L.length 3 := ⟨_, rfl⟩
      obtain ⟨u1, u2, u3, u4, u5, u6, u7, u8, u9, u10, u11, u12, u13, u14⟩ := m79_f hLy hc hRR e3
      rw [e1c, Int.add_zero] at u3
      obtain ⟨τ', v1, v2, v3⟩ := r4 τ τ3 _ hRR u10 (fun t i j q => Or.inl ⟨Or.inl q.1, q.2⟩) (fun q => by omega) (fun _ => by rw [e3]; exact up_eq ⟨rfl, rfl, rfl⟩) (fun q => by omega)
      have u69 := u1.2.1 hin
      have u70 := u1.2.2.1 (by rw [e]; decide)
      rw [e] at u2
      refine ⟨τ', m80_1 hlen6 hRR (G_rn rfl (b_79x_0 ⟨by omega, by omega, fun τq eq => by
      obtain rfl : τ3 = τq := e3.trans eq.symm
      exact ⟨by omega, fun q => absurd q (by rw [u2]; omega), fun q => absurd (u2.symm.trans q) (by decide), fun q => absurd (u2.symm.trans q) (by decide), fun q => absurd (u2.symm.trans q) (by decide), fun q => absurd (u2.symm.trans q) (by decide), fun _ => by rw [u3]; exact ⟨fun _ => ⟨by omega, b_79x_98 ⟨τ', by rw [u70]; exact v1, b_79x_195 ⟨rfl, rfl⟩⟩⟩, fun q => absurd hz q⟩, fun q => absurd (u2.symm.trans q) (by decide), trivial⟩⟩)), v2, v3⟩
    · obtain ⟨σ', r1, r2, r3, r4⟩ := go_push (d := d) (d' := d') hLy hR f1 (fun t i j q => Or.inl ⟨Or.inl q.1, q.2⟩) h511 (fun q => by omega) (fun q => by omega) hcc1
      refine ⟨σ', G_rn rfl (b_123_0 ⟨fun q0 q1 q2 q3 q4 q5 => absurd hs q3, fun q => absurd (hs.symm.trans q) (by decide), fun q => absurd (hs.symm.trans q) (by decide), fun q => absurd (hs.symm.trans q) (by decide), fun _ => by rw [r11]; exact ⟨fun q => absurd q hz, fun _ => ⟨⟨i30, i31⟩, σ', by rw [wc1]; exact r1, rfl, rfl⟩⟩, fun q => absurd (hs.symm.trans q) (by decide), fun q => absurd (hs.symm.trans q) (by decide), trivial⟩), Or.inl ⟨_, r2, by omega, by rw [hpo1, r3, hpo2]; omega, fun τ hRR => ?_⟩⟩
      obtain ⟨τ3, e3⟩ : ∃ τ3, τ3 = up τ 80 0 L.length 3 := ⟨_, rfl⟩
      obtain ⟨u1, u2, u3, u4, u5, u6, u7, u8, u9, u10, u11, u12, u13, u14⟩ := m79_f hLy hc hRR e3
      rw [e1c, Int.add_zero] at u3
      obtain ⟨τ', v1, v2, v3⟩ := r4 τ τ3 _ hRR u10 (fun t i j q => Or.inl ⟨Or.inl q.1, q.2⟩) (fun q => by omega) (fun _ => by rw [e3]; exact up_eq ⟨rfl, rfl, rfl⟩) (fun q => by omega)
      have u69 := u1.2.1 hin
      have u70 := u1.2.2.1 (by rw [e]; decide)
      rw [e] at u2
      refine ⟨τ', m80_1 hlen6 hRR (G_rn rfl (b_79x_0 ⟨by omega, by omega, fun τq eq => by
      obtain rfl : τ3 = τq := e3.trans eq.symm
      exact ⟨by omega, fun q => absurd q (by rw [u2]; omega), fun q => absurd (u2.symm.trans q) (by decide), fun q => absurd (u2.symm.trans q) (by decide), fun q => absurd (u2.symm.trans q) (by decide), fun q => absurd (u2.symm.trans q) (by decide), fun _ => by rw [u3]; exact ⟨fun q => absurd q hz, fun _ => ⟨by omega, b_79x_98 ⟨τ', by rw [u69]; exact v1, b_79x_195 ⟨rfl, rfl⟩⟩⟩⟩, fun q => absurd (u2.symm.trans q) (by decide), trivial⟩⟩)), v2, v3⟩
  · -- let
    have sx2 : slotOK T (b, f, p, 2) := ⟨x1, x2, x3, x4, Nat.le_refl _, fun _ => hin, fun _ => by show kos (tS T b p) = 6 ∨ kos (tS T b p) = 7 ∨ kos (tS T b p) = 8 ∨ kos (tS T b p) = 9; omega⟩
    have hcx2 : Chn T b0 ((b, f, p, 2) :: L) := hc.set sx2 rfl rfl rfl
    have kd2 := kid2 hgood x3 x4 (by rw [e]; decide)
    have hcc1 : Chn T b0 ((b, f, c1A (tN T b) (tS T b) p, 0) :: (b, f, p, 2) :: L) := ⟨⟨x1, x2, kd2.1, kd1.2.2.2.2.1, Nat.zero_le _, fun q => absurd q (by show ¬ 1 ≤ (0 : Nat); omega), fun q => absurd q (by show ¬ (0 : Nat) = 2; omega)⟩, Or.inl ⟨rfl, rfl, Or.inr (Or.inl ⟨rfl, Or.inr e, rfl⟩)⟩, hcx2⟩
    have hs : rg 40 (σ1 37 b) (p : Int) = 108 := w1.trans (kos_8.mp e)
    obtain ⟨σp, ep⟩ : ∃ σp, σp = up σ1 56 0 (40 * (f : Int) + p) (σ 1 0 11) := ⟨_, rfl⟩
    have fp : Fm (fun t _ j => (t = 51 ∧ j = (L.length : Int)) ∨ (t = 56 ∧ j = 40 * (f : Int) + p)) σ σp := by rw [ep]; exact (f1.mono fun t i j q => Or.inl q).up (Or.inr ⟨rfl, rfl⟩)
    obtain ⟨-, w2', -⟩ := CWx hLy (hF.tr (fp.mono fun t i j q => by unfold Crun; omega)) x1 x3
    have wc : rg 120 (σp 41 b) (3 * (p : Int) + 1) = c1A (tN T b) (tS T b) p := w2' x4 1 (by rw [e]; decide)
    have p56 : σp 56 0 (40 * (f : Int) + p) = σ 1 0 11 := by rw [ep]; exact up_eq ⟨rfl, rfl, rfl⟩
    obtain ⟨σ', r1, r2, r3, r4⟩ := go_push (d := d) (d' := d') hLy hR fp (fun t i j q => by omega) (by rw [ep, up_ne (by omega)]; exact h511) (fun _ => by rw [p56]; exact hre) (fun q => by omega) hcc1
    have r11 : σ1 1 0 11 = σ 1 0 11 := a1 _ _ (by omega)
    have hp40 : p < 40 := Nat.lt_of_lt_of_le x3 hn
    refine ⟨σ', G_rn rfl (b_123_0 ⟨fun q0 q1 q2 q3 q4 q5 => absurd hs q4, fun q => absurd (hs.symm.trans q) (by decide), fun q => absurd (hs.symm.trans q) (by decide), fun q => absurd (hs.symm.trans q) (by decide), fun q => absurd (hs.symm.trans q) (by decide), fun _ => by rw [r11, show (f : Int) * 40 + p = 40 * f + p by omega]; exact ⟨irI (by omega) (by omega), irI (by omega) (by omega), fun σ2 e2 => ⟨⟨i30, i31⟩, σ', by rw [us_in ⟨by omega, by omega⟩] at e2; rw [e2, ← ep, wc]; exact r1, rfl, rfl⟩⟩, fun q => absurd (hs.symm.trans q) (by decide), trivial⟩), Or.inl ⟨_, r2, by omega, by rw [hpo1, r3, hpo2]; omega, fun τ hRR => ?_⟩⟩
    obtain ⟨τ3, e3⟩ : ∃ τ3, τ3 = up τ 80 0 L.length 3 := ⟨_, rfl⟩
    obtain ⟨u1, u2, u3, u4, u5, u6, u7, u8, u9, u10, u11, u12, u13, u14⟩ := m79_f hLy hc hRR e3
    obtain ⟨τ9, e9⟩ : ∃ τ9, τ9 = up τ3 84 0 (40 * (f : Int) + p) (σ 1 0 11 + kdA T b (c0A (tS T b) p)) := ⟨_, rfl⟩
    have g9 : Fm (fun t _ j => (t = 80 ∧ j = (L.length : Int)) ∨ (t = 84 ∧ j = 40 * (f : Int) + p)) τ τ9 := by rw [e9]; exact (u10.mono fun t i j q => Or.inl q).up (Or.inr ⟨rfl, rfl⟩)
    obtain ⟨τ', v1, v2, v3⟩ := r4 τ τ9 _ hRR g9 (fun t i j q => by omega) (fun q => by omega) (fun _ => by rw [e9, up_ne (by omega), e3]; exact up_eq ⟨rfl, rfl, rfl⟩) (fun _ => by rw [p56, e9]; exact up_eq ⟨rfl, rfl, rfl⟩)
    have u69 := u1.2.1 hin
    rw [e] at u2
    refine ⟨τ', m80_1 hlen6 hRR (G_rn rfl (b_79x_0 ⟨by omega, by omega, fun τq eq => by
      obtain rfl : τ3 = τq := e3.trans eq.symm
      exact ⟨by omega, fun q => absurd q (by rw [u2]; omega), fun q => absurd (u2.symm.trans q) (by decide), fun q => absurd (u2.symm.trans q) (by decide), fun q => absurd (u2.symm.trans q) (by decide), fun q => absurd (u2.symm.trans q) (by decide), fun q => absurd (u2.symm.trans q) (by decide), fun _ => by rw [u14, u3, show (40 : Int) * f + (40 * b + p) - 40 * b = 40 * f + p by omega]; exact ⟨irI (by omega) (by omega), irI (by omega) (by omega), irI (by omega) (by omega), irI (by omega) (by omega), by omega, fun τz ez => ⟨by omega, τ', by rw [ez, up_ne (by omega), u69, ← e9]; exact v1, b_79x_195 ⟨rfl, rfl⟩⟩⟩, trivial⟩⟩)), v2, v3⟩
end GOON
