/-! ===== a turn ===== -/
section TURN2
variable {T : TP} {β : SS} {g : Nat} {b0 : Int} {d d' : Nat}
theorem exK_2 {b : Int} {f p : Nat} {L : List SL} : exK T b0 ((b, f, p, 2) :: L) = if kos (tS T b p) = 6 then 0 else kdA T b p := by
  unfold exK
  exact if_neg (show ¬ sS ((b, f, p, 2) : SL) = 1 from (by decide : ¬ (2 : Nat) = 1))
/-- the last term is there -/
theorem go2 (hLy : LyC T β) (hg : g ≤ 2) {σ : SS} {b : Int} {f p : Nat} {L : List SL} (hR : RI T β g b0 σ ((b, f, p, 2) :: L)) (h3 : σ 1 0 12 ≤ 3000) :
    ∃ σl σ', (∀ {P : AV → SS → Prop}, (∀ σ3, σ3 = σl → ∃ σ4, Rn (d + 4) 122 [vr 1 0, vr 4 b, vi (p : Int)] σ3 vu σ4 ∧ P vu σ4) → G (d + 4) P 119 27 [vr 1 0, vi (L.length : Int), vi (f : Int), vi (p : Int), vi ((2 : Nat) : Int), vu] [vr 4 b] σ) ∧ Rn (d + 4) 122 [vr 1 0, vr 4 b, vi (p : Int)] σl vu σ' ∧ Out T β g b0 d' σ σ' ((b, f, p, 2) :: L) := by
  obtain ⟨hT, hW, hCW, hLay⟩ := id hLy
  obtain ⟨hF, hc, hh, hS, hSt, hkn, hst, hcl, hres⟩ := id hR
  obtain ⟨x1, x2, x3, x4, x5, x6, x7⟩ := hc.slot
  change isB b at x1
  change f ≤ 12 at x2
  change p < tN T b at x3
  change nmA (tS T b) p = false at x4
  have hK : kos (tS T b p) = 6 ∨ kos (tS T b p) = 7 ∨ kos (tS T b p) = 8 ∨ kos (tS T b p) = 9 := x7 rfl
  have hlen := hc.len hT hW
  change L.length ≤ 40 * f + p at hlen
  have hn := (hT b x1).1
  have hgood := (hW b x1).1
  have hb' := x1
  unfold isB at hb'
  have hkd := kd_eq hgood x3 x4
  have hre : vkA (if kos (tS T b p) = 6 then 0 else kdA T b p) (σ 1 0 11) (σ 32 0 6) := by
    have h := hres (show 1 ≤ (2 : Nat) by omega)
    rwa [exK_2] at h
  have hosm2 : osm β g ((b, f, p, 2) :: L) = osm β g L + hcB β b p := by show osm β g L + (if 1 ≤ 2 then hcB β b p else 0) = _; rw [if_pos (by omega)]
  have hc12 : c1K ((b, f, p, 2) :: L) = c1K L := by show c1K L + (if (2 : Nat) = 1 then 1 else 0) = _; rw [if_neg (by omega)]; omega
  have hpo2 : poK ((b, f, p, 2) :: L) = poK L + 1 := by
    show poK L + (if (2 : Nat) = 1 then 2 else if (2 : Nat) = 2 then 1 else 0) = _
    rw [if_neg (by omega), if_pos rfl]
  rw [hc12] at hcl
  rw [hosm2] at hSt
  have hh' : σ 1 0 10 = (L.length : Int) + 1 := by rw [hh]; simp
  obtain ⟨s1, s2, s3, s4, s5, s6, s7, s8, s9, s10⟩ := hS.1
  obtain ⟨w1, -⟩ := CWx hLy hF x1 x3
  obtain ⟨σ1, e1⟩ : ∃ σ1, σ1 = up σ 51 0 L.length ((2 : Nat) + 1 : Int) := ⟨_, rfl⟩
  have f1 : Fm (fun t _ j => t = 51 ∧ j = (L.length : Int)) σ σ1 := by rw [e1]; exact (Fm.rf σ).up ⟨rfl, rfl⟩
  have hF1 : Fm Crun β σ1 := hF.tr (f1.mono fun t i j q => by unfold Crun; omega)
  obtain ⟨v1, -⟩ := CWx hLy hF1 x1 x3
  have hsum : kos (tS T b p) = 6 → (0 ≤ σ 53 0 L.length + σ 1 0 11 ∧ σ 53 0 L.length + σ 1 0 11 ≤ 2000) := fun q6 => by
    have h53 := s7 rfl q6
    rw [if_pos q6] at hre
    unfold vkA at hre
    clear s8 s9 s10 s6 s5 hkd hcl hst
    omega
  -- the model, up to its leaving
  have hm : ∀ τ, RR T β b0 σ τ ((b, f, p, 2) :: L) → ∀ v : Int, (kos (tS T b p) = 6 → v = (σ 53 0 L.length + σ 1 0 11) % 1000) → (kos (tS T b p) ≠ 6 → v = σ 1 0 11 + kdA T b p) → ∃ τ4, Fm (fun t _ j => t = 62 ∧ (j = 29 ∨ j = 24)) τ τ4 ∧ τ4 62 0 24 = (f : Int) + 1 ∧ τ4 82 0 f = b ∧ τ4 62 0 29 = v ∧ ∀ τ', Rn (d' + 4) 78 [vr 62 0, vi (f : Int), vi (40 * b + (p : Int))] τ4 vu τ' → Rn (d' + 5) 80 [vr 62 0] τ vu τ' := by
    intro τ hRR v hv6 hv
    obtain ⟨⟨m1, m2, m3, m4, m5, m6, m7, m8⟩, m9, m10⟩ := hRR
    obtain ⟨⟨n1, n2, n3, n4, n5, n6, n7, n8, n9, n10, n11, n12⟩, m5'⟩ := m5
    have h19 : τ 62 0 19 - 1 = (L.length : Int) := by rw [m6]; simp
    obtain ⟨y1, y2, y3⟩ := m_at hT x1 (m1.2 b x1) x3 x4
    have h24 : τ 62 0 24 = (f : Int) + 1 + (if kos (tS T b p) = 9 then 1 else 0) := by
      rw [m9 (by simp)]
      show (f : Int) + 1 + (if (2 : Nat) = 2 ∧ kos (tS T b p) = 9 then 1 else 0) = _
      by_cases q : kos (tS T b p) = 9
      · rw [if_pos ⟨rfl, q⟩, if_pos q]
      · rw [if_neg (fun w => q w.2), if_neg q]
    have h29 := m10 (show 1 ≤ (2 : Nat) by omega)
    rw [exK_2] at h29
    change τ 82 0 f = b at n7
    have n78 : τ 78 0 (L.length : Int) = (f : Int) := n1
    have n79 : τ 79 0 (L.length : Int) = 40 * b + (p : Int) := n2
    by_cases q6 : kos (tS T b p) = 6
    · obtain ⟨p2, p81⟩ := n5 rfl q6
      clear n3 n4 n5 n6 n8 n9 n10 n11 n12 s5 s6 s7 s8 s9 s10 hkd hv hre
      rw [if_pos q6, Int.add_zero] at h29
      rw [if_neg (by omega), Int.add_zero] at h24
      obtain ⟨z1, z2⟩ := hsum q6
      refine ⟨up τ 62 0 29 v, (Fm.rf τ).up ⟨rfl, Or.inl rfl⟩, (up_ne (by omega)).trans h24, (up_ne (by omega)).trans n7, up_eq ⟨rfl, rfl, rfl⟩, fun τ' h => G_rn rfl (b_80_0 ?_)⟩
      rw [h19, n78, n79, p2, p81, h29]
      refine ⟨irI (by omega) (by omega), by omega, by omega, by omega, fun _ => ⟨fun q => absurd q (by omega), fun _ => ⟨fun q => absurd rfl q, fun _ => ⟨by omega, irI (Int.le_trans (by decide) z1) (Int.le_trans z2 (by decide)), ⟨z1, by decide⟩, fun τ5 e5 => ⟨τ', ?_, rfl, rfl⟩⟩⟩⟩, fun q => absurd q (by decide)⟩
      rw [e5, ← hv6 q6]; exact h
    · have p3 := n6 rfl q6
      rw [if_neg q6] at h29
      by_cases q9 : kos (tS T b p) = 9
      · rw [if_pos q9] at h24
        refine ⟨up τ 62 0 24 ((f : Int) + 1), (Fm.rf τ).up ⟨rfl, Or.inr rfl⟩, up_eq ⟨rfl, rfl, rfl⟩, (up_ne (by omega)).trans n7, (up_ne (by omega)).trans (by rw [h29, hv q6]), fun τ' h => G_rn rfl (b_80_0 ?_)⟩
        rw [h19, n78, n79, p3]
        refine ⟨irI (by omega) (by omega), by omega, by omega, by omega, fun _ => ⟨fun q => absurd q (by omega), fun _ => ⟨fun _ => ⟨by omega, fun q => absurd (y2.trans q9) q, fun _ => ?_⟩, fun q => absurd q (by omega)⟩⟩, fun q => absurd q (by omega)⟩
        rw [h24]
        refine ⟨irI (by omega) (by omega), fun τ5 e5 => ⟨τ', ?_, rfl, rfl⟩⟩
        rw [show (f : Int) + 1 + 1 - 1 = f + 1 by omega] at e5
        rw [e5]; exact h
      · rw [if_neg q9, Int.add_zero] at h24
        refine ⟨τ, Fm.rf τ, h24, n7, by rw [h29, hv q6], fun τ' h => G_rn rfl (b_80_0 ?_)⟩
        rw [h19, n78, n79, p3]
        exact ⟨irI (by omega) (by omega), by omega, by omega, by omega, fun _ => ⟨fun q => absurd q (by omega), fun _ => ⟨fun _ => ⟨by omega, fun _ => ⟨τ', h, rfl, rfl⟩, fun q => absurd (y2.symm.trans q) q9⟩, fun q => absurd q (by omega)⟩⟩, fun q => absurd q (by omega)⟩
  have lv : ∀ σl : SS, Fm (fun t _ j => (t = 1 ∧ j = 11) ∨ (t = 51 ∧ j = (L.length : Int))) σ σl → vkA (kdA T b p) (σl 1 0 11) (σ 32 0 6) → (kos (tS T b p) = 6 → σl 1 0 11 + kdA T b p = (σ 53 0 L.length + σ 1 0 11) % 1000) → (kos (tS T b p) ≠ 6 → σl 1 0 11 = σ 1 0 11) → ∃ σ', Rn (d + 4) 122 [vr 1 0, vr 4 b, vi (p : Int)] σl vu σ' ∧ Out T β g b0 d' σ σ' ((b, f, p, 2) :: L) := by
    intro σl fl hv h6 hn6
    have l6 : σl 32 0 6 = σ 32 0 6 := fl _ _ _ (by omega)
    obtain ⟨σ', r1, r2, r3, r4⟩ := go_leave (d := d + 1) (d' := d' + 1) hLy hg hc hS.2 hF fl (fun t i j q => by omega) (by rw [l6]; exact Int.le_refl _) hh' (hSt.keep fl (fun t i j q => by omega)) hkn hst hcl (by rw [l6]; exact hv)
    refine ⟨σ', r1, Or.inl ⟨L, r2, by omega, by rw [hpo2, r3]; omega, fun τ hRR => ?_⟩⟩
    obtain ⟨τ4, g4, k24, k82, k29, k80⟩ := hm τ hRR (σl 1 0 11 + kdA T b p) h6 (fun q => by rw [hn6 q])
    obtain ⟨⟨m1, m2, m3, m4, m5, m6, m7, m8⟩, m9, m10⟩ := hRR
    obtain ⟨τ', v1, v2, v3⟩ := r4 τ τ4 _ _ ⟨m1, m2, m3, m4, m5.2, m6, m7, m8⟩ g4 (fun t i j q => by omega) ((m4.keepC fl (fun t i j w z => by unfold Csto at z; omega)).keep g4 (fun t i j w z => by unfold Cstm at z; omega)) ((g4 _ _ _ (by omega)).trans (by rw [m6]; simp)) ((g4 _ _ _ (by omega)).trans m7) ((g4 _ _ _ (by omega)).trans m8) k24 k82 k29
    exact ⟨τ', k80 τ' v1, v2, v3⟩
  by_cases q6 : kos (tS T b p) = 6
  · obtain ⟨z1, z2⟩ := hsum q6
    have hkp : kdA T b p = 0 := by rw [hkd, if_neg (by omega), if_neg (by omega), if_neg (by omega), if_neg (by omega), if_neg (by omega)]
    have e53 : rg 520 (σ1 53 0) (L.length : Int) = σ 53 0 L.length := by rw [rgN (by omega)]; exact f1 _ _ _ (by omega)
    have e11 : σ1 1 0 11 = σ 1 0 11 := f1 _ _ _ (by omega)
    obtain ⟨σl, el⟩ : ∃ σl, σl = up σ1 1 0 11 ((σ 53 0 L.length + σ 1 0 11) % 1000) := ⟨_, rfl⟩
    obtain ⟨σ', r1, r2⟩ := lv σl (by rw [el]; exact (f1.mono fun t i j q => Or.inr q).up (Or.inl ⟨rfl, rfl⟩)) (by rw [el, up_eq ⟨rfl, rfl, rfl⟩, hkp]; exact Or.inr ⟨by decide, Int.emod_nonneg _ (by decide), Int.le_of_lt_add_one (Int.emod_lt_of_pos _ (by decide))⟩) (fun _ => by rw [el, up_eq ⟨rfl, rfl, rfl⟩, hkp, Int.add_zero]) (fun q => absurd q6 q)
    refine ⟨σl, σ', fun hP => b_119_27r ⟨irI (by omega) (by omega), fun σ2 e2 => ?_⟩, r1, r2⟩
    rw [us_in ⟨by omega, by omega⟩, ← e1] at e2
    rw [e2, v1, e53, e11]
    exact ⟨fun _ => ⟨fun _ => ⟨fun q => absurd (kos_6.mp q6) q, fun _ => ⟨irI (Int.le_trans (by decide) z1) (Int.le_trans z2 (by decide)), ⟨z1, by decide⟩, fun σ3 e3 => hP σ3 (e3.trans el.symm)⟩⟩, fun q => absurd q (by decide)⟩, fun q => absurd q (by decide)⟩
  · rw [if_neg q6] at hre
    have e11 : σ1 1 0 11 = σ 1 0 11 := f1 _ _ _ (by omega)
    obtain ⟨σ', r1, r2⟩ := lv σ1 (f1.mono fun t i j q => Or.inr q) (by rw [e11]; exact hre) (fun q => absurd q q6) (fun _ => e11)
    refine ⟨σ1, σ', fun hP => b_119_27r ⟨irI (by omega) (by omega), fun σ2 e2 => ?_⟩, r1, r2⟩
    rw [us_in ⟨by omega, by omega⟩, ← e1] at e2
    rw [e2, v1]
    exact ⟨fun _ => ⟨fun _ => ⟨fun _ => hP σ1 rfl, fun q => absurd (kos_6.mpr q) q6⟩, fun q => absurd q (by decide)⟩, fun q => absurd q (by decide)⟩
theorem turn_ok (hLy : LyC T β) (hg : g ≤ 2) {σ : SS} {x : SL} {L : List SL} (hR : RI T β g b0 σ (x :: L)) (h3 : σ 1 0 12 ≤ 3000) :
    ∃ σ', Rn (d + 5) 119 [vr 1 0] σ vu σ' ∧ Out T β g b0 d' σ σ' (x :: L) := by
  obtain ⟨b, f, p, s⟩ := x
  obtain ⟨hT, hW, hCW, hLay⟩ := id hLy
  obtain ⟨hF, hc, hh, hS, hSt, hkn, hst, hcl, hres⟩ := id hR
  obtain ⟨x1, x2, x3, x4, x5, x6, x7⟩ := hc.slot
  change isB b at x1
  change f ≤ 12 at x2
  change p < tN T b at x3
  change s ≤ 2 at x5
  have hlen := hc.len hT hW
  change L.length ≤ 40 * f + p at hlen
  have hn := (hT b x1).1
  obtain ⟨s1, s2, s3, s4, -⟩ := hS.1
  change σ 52 0 L.length = f at s1
  change σ 50 0 L.length = p at s2
  change σ 51 0 L.length = s at s3
  change σ 54 0 f = b at s4
  have h10 : σ 1 0 10 - 1 = (L.length : Int) := by rw [hh]; simp
  -- what the turn does
  have key : ∃ σ', Out T β g b0 d' σ σ' ((b, f, p, s) :: L) ∧ G (d + 4) (fun v σ1 => v = vu ∧ σ1 = σ') 119 27 [vr 1 0, vi (L.length : Int), vi (f : Int), vi (p : Int), vi (s : Int), vu] [vr 4 b] σ := by
    have hs3 : s = 0 ∨ s = 1 ∨ s = 2 := by omega
    rcases hs3 with rfl | rfl | rfl
    · -- enter
      obtain ⟨σ', L', r1, r2, r3, r4, r5⟩ := ent_fin (d := d) (d' := d') hLy hg hR rfl h3
      have e12 : up σ 51 0 L.length 1 1 0 12 = σ 1 0 12 := up_ne (by omega)
      by_cases h30 : σ 1 0 12 + 1 ≤ 3000
      · refine ⟨σ', Or.inl ⟨L', r2, by omega, by omega, r5⟩, b_119_27r ⟨irI (by omega) (by omega), fun σ1 e1 => ⟨fun q => absurd rfl q, fun _ => ⟨σ', G_rn rfl (b_120_0 ?_), rfl, rfl⟩⟩⟩⟩
        rw [us_in ⟨by omega, by omega⟩] at e1
        change σ1 = up σ 51 0 L.length 1 at e1
        rw [e1, e12]
        refine ⟨irI (by omega) (by omega), fun σ2 e2 => ⟨fun _ => ?_, fun q => absurd q (by rw [e2, up_eq ⟨rfl, rfl, rfl⟩]; omega)⟩⟩
        rw [e2]
        exact r1 ⟨rfl, rfl⟩
      · refine ⟨up (up (up σ 51 0 L.length 1) 1 0 12 (σ 1 0 12 + 1)) 1 0 14 0, Or.inr ⟨?_, up_eq ⟨rfl, rfl, rfl⟩, fun τ hRR => ?_⟩, b_119_27r ⟨irI (by omega) (by omega), fun σ1 e1 => ⟨fun q => absurd rfl q, fun _ => ⟨_, G_rn rfl (b_120_0 ?_), rfl, rfl⟩⟩⟩⟩
        · exact (((hF.up (by unfold Crun; omega)).up (by unfold Crun; omega)).up (by unfold Crun; omega))
        · obtain ⟨τ', v1, v2, v3⟩ := r5 τ hRR
          exact ⟨τ', v1, Or.inl (by rw [v2.1.2.2.2.2.2.2.1, r3]; omega), v3⟩
        · rw [us_in ⟨by omega, by omega⟩] at e1
          change σ1 = up σ 51 0 L.length 1 at e1
          rw [e1, e12]
          exact ⟨irI (by omega) (by omega), fun σ2 e2 => ⟨fun q => absurd q (by rw [e2, up_eq ⟨rfl, rfl, rfl⟩]; omega), fun _ => ⟨Or.inl rfl, fun σ3 e3 => ⟨rfl, by rw [e3, e2]⟩⟩⟩⟩
    · -- go on
      have hh : ∃ σ', Rn (d + 4) 123 [vr 1 0, vr 4 b, vi (f : Int), vi (p : Int)] (up σ 51 0 L.length 2) vu σ' ∧ Out T β g b0 d' σ σ' ((b, f, p, 1) :: L) := by
        by_cases q : kos (tS T b p) = 9
        · exact goC hLy hg hR h3 q
        · exact go1 hLy hg hR h3 q
      obtain ⟨σ', r1, r2⟩ := hh
      refine ⟨σ', r2, b_119_27r ⟨irI (by omega) (by omega), fun σ1 e1 => ⟨fun _ => ⟨fun q => absurd rfl q, fun _ => ⟨σ', ?_, rfl, rfl⟩⟩, fun q => absurd q (by omega)⟩⟩⟩
      rw [us_in ⟨by omega, by omega⟩] at e1
      change σ1 = up σ 51 0 L.length 2 at e1
      rw [e1]; exact r1
    · obtain ⟨σl, σ', r1, r2, r3⟩ := go2 (d := d) (d' := d') hLy hg hR h3
      exact ⟨σ', r3, r1 fun σ3 e3 => ⟨σ', by rw [e3]; exact r2, rfl, rfl⟩⟩
  obtain ⟨σ', k1, k2⟩ := key
  refine ⟨σ', G_rn rfl (b_119_0 ?_), k1⟩
  rw [h10, rgN (by omega), rgN (by omega), rgN (by omega), s1, s2, s3, rgN (by omega), s4]
  exact ⟨irI (by omega) (by omega), some (4, b), σ, s_15 x1, k2⟩
end TURN2
