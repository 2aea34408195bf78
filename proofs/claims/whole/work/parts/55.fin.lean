/-! ===== enter: what follows the homes' opening ===== -/
section FIN
variable {T : TP} {β : SS} {g : Nat} {b0 : Int} {d d' : Nat}
/-- what the class reads of a text during a run -/
theorem CWx (hLy : LyC T β) {σ : SS} (hF : Fm Crun β σ) {b : Int} (hb : isB b) {p : Nat} (hp : p < tN T b) :
    rg 40 (σ 37 b) (p : Int) = tS T b p ∧ (nmA (tS T b) p = false → ∀ i : Nat, (i : Int) < inn (kos (tS T b p)) → rg 120 (σ 41 b) (3 * (p : Int) + (i : Int)) = xkA (tN T b) (tS T b) p i) ∧
    rg 40 (σ 44 b) (p : Int) = (if nmA (tS T b) p = false ∧ 97 ≤ tS T b p ∧ tS T b p ≤ 100 then bnA (tN T b) (tS T b) p else -6) ∧ rg 40 (σ 40 b) (p : Int) = (if nmA (tS T b) p = false ∧ tS T b p = 64 then ofA (tS T b) p else -6) ∧
    rg 40 (σ 47 b) (p : Int) = β 47 b p ∧ rg 40 (σ 48 b) (p : Int) = β 48 b p := by
  obtain ⟨hT, hW, ⟨hC, hQ⟩, -⟩ := hLy
  have hn := (hT b hb).1
  obtain ⟨q1, q2⟩ := hQ b hb
  obtain ⟨t1, t2, t3, t4⟩ := q1.1 p hp
  have e : ∀ (t : Nat) (j : Int), 37 ≤ t → t ≤ 48 → σ t b j = β t b j := fun t j h1 h2 => hF _ _ _ (by unfold Crun; omega)
  refine ⟨by rw [rgN (by omega), e _ _ (by omega) (by omega)]; exact (hC b hb).2.2.2 p (by omega) (by omega), fun hm i hi => ?_, by rw [rgN (by omega), e _ _ (by omega) (by omega)]; exact t3, by rw [rgN (by omega), e _ _ (by omega) (by omega)]; exact t4, by rw [rgN (by omega)]; exact e _ _ (by omega) (by omega), by rw [rgN (by omega)]; exact e _ _ (by omega) (by omega)⟩
  have := inn_rng (kos (tS T b p))
  rw [rg_in ⟨by omega, by omega⟩, e _ _ (by omega) (by omega)]
  exact ((t2 hm).1 i hi).1
theorem tin_inn {x : Int} (h : 0 ≤ kos x) : tin x = inn (kos x) := by rw [tin_kos, if_neg (by omega)]
/-- the step count at which a step ends the run in the model -/
theorem ent_fin (hLy : LyC T β) (hg : g ≤ 2) {σ : SS} {x : SL} {L : List SL} (hR : RI T β g b0 σ (x :: L)) (hs : sS x = 0) (h3 : σ 1 0 12 ≤ 3000) :
    ∃ σ' L', (∀ {P : AV → SS → Prop}, P vu σ' → G (d + 3) P 120 16 [vr 1 0, vr 4 (sB x), vi (sF x : Int), vi (sP x : Int), vi 2] [] (up (up σ 51 0 L.length 1) 1 0 12 (σ 1 0 12 + 1))) ∧ RI T β g b0 σ' L' ∧ σ' 1 0 12 = σ 1 0 12 + 1 ∧ poK L' ≤ poK (x :: L) + 2 ∧
      ∀ τ, RR T β b0 σ τ (x :: L) → ∃ τ', Rn (d' + 5) 80 [vr 62 0] τ vu τ' ∧ RR T β b0 σ' τ' L' ∧ Fm Cmr τ τ' := by
  obtain ⟨hT, hW, hCW, hLay⟩ := id hLy
  obtain ⟨f0, hSt, e12, e51, h57, hag, hcls, hmod⟩ := entS_ok (d := d) (d' := d' + 2) hLy hg hR hs h3
  obtain ⟨hF, hc, hh, hS, -, hkn, hst, hcl, hres⟩ := hR
  obtain ⟨b, f, p, s⟩ := x
  obtain rfl : s = 0 := hs
  have hx := hc.slot
  obtain ⟨x1, x2, x3, x4, x5, x6, x7⟩ := hx
  change isB b at x1
  change f ≤ 12 at x2
  change p < tN T b at x3
  change nmA (tS T b) p = false at x4
  have hlen := hc.len hT hW
  change L.length ≤ 40 * f + p at hlen
  have hn := (hT b x1).1
  have hgood := (hW b x1).1
  have hk0 := kos_ge hgood x3 x4
  have hkr := kos_rng (tS T b p)
  have h8 := hLy.ho b x1
  change Fm (fun t i j => Cop f t i j ∨ (t = 51 ∧ j = (L.length : Int)) ∨ (t = 1 ∧ j = 12)) σ (entS β σ (b, f, p, 0) L.length) at f0
  change StI (entS β σ (b, f, p, 0) L.length) (osm β g L + hcB β b p) (2 + 40 * (σ 1 0 12 + 1)) at hSt
  generalize hse : entS β σ (b, f, p, 0) L.length = σe at *
  have hFe : Fm Crun β σe := hF.tr (f0.mono fun t i j q => by unfold Crun; unfold Cop at q; omega)
  obtain ⟨w1, w2, w3, w4, w5, w6⟩ := CWx hLy hFe x1 x3
  have e10 : σe 1 0 10 = (L.length : Int) + 1 := (f0 _ _ _ (by unfold Cop; omega)).trans (by rw [hh]; simp)
  have e13 : σe 1 0 13 = σ 1 0 13 := f0 _ _ _ (by unfold Cop; omega)
  have e14 : σe 1 0 14 = 1 := (f0 _ _ _ (by unfold Cop; omega)).trans hkn
  have e6 : σe 32 0 6 = σ 32 0 6 := f0 _ _ _ (by unfold Cop; omega)
  have e8 : σe 4 b 8 = β 4 b 8 := hFe _ _ _ (by unfold Crun; omega)
  have hc1 : c1K ((b, f, p, 0) :: L) = c1K L := by show c1K L + (if (0 : Nat) = 1 then 1 else 0) = _; rw [if_neg (by omega)]; omega
  have hcl' : 0 ≤ σe 1 0 13 ∧ σe 1 0 13 + c1K L + 1 ≤ σe 1 0 12 := by rw [e13, e12]; rw [hc1] at hcl; omega
  have hst' : 0 ≤ σe 1 0 12 ∧ σe 1 0 12 ≤ 3001 := by rw [e12]; omega
  have hSL : SKA T β g σe L := hS.2.cong (fun b hb => (hLy.ho b hb).2) hc.tail hag
  have hpo : poK ((b, f, p, 0) :: L) = poK L := by show poK L + (if (0 : Nat) = 1 then 2 else if (0 : Nat) = 2 then 1 else 0) = _; rw [if_neg (by omega), if_neg (by omega)]; omega
  have hSt2 : StI σe (osm β g L + hcB β b p) (2 + 40 * σe 1 0 12) := by rw [e12]; exact hSt
  -- the model's block
  have hblk : ∀ τ, RR T β b0 σ τ ((b, f, p, 0) :: L) → ∃ τ3, MM T β σe τ3 ((b, f, p, 1) :: L) ((L.length : Int) + 1) ∧ τ3 62 0 24 = (f : Int) + 1 ∧ Fm Cmr τ τ3 ∧
      ∀ τ', (inn (kos (tS T b p)) ≤ 0 → ∃ v, (kos (tS T b p) = 0 → v = tS T b p - 48) ∧ (kos (tS T b p) = 1 → v = τ3 83 0 f) ∧ (∀ q : Nat, kos (tS T b p) = 2 → bnA (tN T b) (tS T b) p = q → v = τ3 84 0 (40 * (f : Int) + q)) ∧ Rn (d' + 4) 78 [vr 62 0, vi (f : Int), vi (40 * b + (p : Int))] (up τ3 62 0 29 v) vu τ') → (0 < inn (kos (tS T b p)) → Rn (d' + 4) 76 [vr 62 0, vi (f : Int), vi (40 * b + (c0A (tS T b) p : Int))] τ3 vu τ') → Rn (d' + 5) 80 [vr 62 0] τ vu τ' := by
    intro τ hRR
    obtain ⟨τ2, k1, k2, k3, k4, k5, k6⟩ := hmod τ hRR
    change Fm (fun t i j => Com f t i j ∨ (t = 62 ∧ j = 30)) τ τ2 at k2
    obtain ⟨⟨m1, m2, m3, m4, m5, m6, m7, m8⟩, m9, m10⟩ := hRR
    obtain ⟨⟨n1, n2, n3, n4, n5, n6, n7, n8, n9, n10, n11, n12⟩, m5'⟩ := m5
    change τ 78 0 L.length = f at n1
    change τ 79 0 L.length = 40 * b + p at n2
    change τ 82 0 f = b at n7
    change τ 83 0 f = σ 55 0 f + tG T b at n8
    have n3' := n3 rfl
    obtain ⟨τ3, e3⟩ : ∃ τ3, τ3 = up τ2 80 0 L.length 1 := ⟨_, rfl⟩
    have g3 : Fm (fun t i j => Com f t i j ∨ (t = 62 ∧ j = 30) ∨ (t = 80 ∧ j = (L.length : Int))) τ τ3 := by rw [e3]; exact (k2.mono fun t i j q => q.imp id Or.inl).up (Or.inr (Or.inr ⟨rfl, rfl⟩))
    have gk : ∀ (t : Nat) (j : Int), t < 85 → t ≠ 80 → (t ≠ 62 ∨ j = 19 ∨ j = 24 ∨ j = 37 ∨ j = 29) → τ3 t 0 j = τ t 0 j := fun t j h1 h2 h3 => g3 _ _ _ (by unfold Com Cstm; omega)
    have mW3 : MW T τ3 := m1.keep hT g3 (fun t i j q => by unfold Com Cstm at q; omega)
    obtain ⟨y1, y2, y3⟩ := m_at hT x1 (mW3.2 b x1) x3 x4
    have r6 : AgM β τ τ3 L := by
      have e : ∀ (t : Nat) (j : Int), (t ≠ 80 ∨ j ≠ L.length) → τ3 t 0 j = τ2 t 0 j := fun t j h => by rw [e3, up_ne (by omega)]
      exact ⟨fun i hi => by rw [e 78 _ (by omega), e 79 _ (by omega), e 80 _ (by omega), e 81 _ (by omega)]; exact k5.1 i hi, fun y hy => ⟨by rw [e _ _ (by omega)]; exact (k5.2 y hy).1, by rw [e _ _ (by omega)]; exact (k5.2 y hy).2.1, by rw [e _ _ (by omega)]; exact (k5.2 y hy).2.2.1, fun r r0 r1 r2 => by rw [e _ _ (by omega)]; exact (k5.2 y hy).2.2.2 r r0 r1 r2⟩⟩
    have hb' := x1
    unfold isB at hb'
    have h66 : τ3 66 0 (40 * b + p) = tS T b p := (mW3.1 b x1).2.2.2 p (by omega) (by omega)
    have h82 : τ3 82 0 f = b := (gk _ _ (by omega) (by omega) (by omega)).trans n7
    have h19 : τ 62 0 19 - 1 = (L.length : Int) := by rw [m6]; simp
    have eo : ∀ (t : Nat) (j : Int), (t = 85 → j < 44 * (f : Int) + 2) → t ≠ 80 → t ≠ 62 → t ≤ 85 → τ3 t 0 j = τ t 0 j := fun t j h1 h2 h3 h4 => g3 _ _ _ (by unfold Com Cstm; omega)
    have ec : ∀ (t : Nat) (j : Int), (t = 57 → j < 42 * (f : Int) + 2) → t ≠ 51 → 50 ≤ t → t ≤ 57 → σe t 0 j = σ t 0 j := fun t j h1 h2 h3 h4 => f0 _ _ _ (by unfold Cop; omega)
    refine ⟨τ3, ⟨mW3, m2.keep g3 (fun t i j q => by unfold Com Cstm at q; omega), fun b' hb' p' hp' => by rw [gk _ _ (by omega) (by omega) (by omega)]; exact m3 b' hb' p' hp', ?_, ⟨⟨?_, ?_, fun q => absurd q (by show ¬ (1 : Nat) = 0; omega), fun _ => by rw [e3, up_eq ⟨rfl, rfl, rfl⟩], fun q => absurd q (by show ¬ (1 : Nat) = 2; omega), fun q => absurd q (by show ¬ (1 : Nat) = 2; omega), h82, ?_, fun q => absurd q (by show ¬ (1 : Nat) = 2; omega), fun q => ?_, fun q w => ?_, fun _ r r1 r2 r3 => ?_⟩, m5'.cong (fun b hb => (hLy.ho b hb).2) hc.tail hag r6⟩, ?_, ?_, ?_⟩, ?_, ?_, fun τ' hl hn0 => ?_⟩
    · rw [e3]; exact k1.keep (C := fun t _ _ => t = 80) ((Fm.rf τ2).up rfl) (fun t i j w z => by unfold Cstm at z; omega)
    · exact (eo _ _ (by omega) (by omega) (by omega) (by omega)).trans n1
    · exact (eo _ _ (by omega) (by omega) (by omega) (by omega)).trans n2
    · show τ3 83 0 (f : Int) = σe 55 0 (f : Int) + tG T b
      rw [eo _ _ (by omega) (by omega) (by omega) (by omega), ec _ _ (by omega) (by omega) (by omega) (by omega)]; exact n8
    · show τ3 85 0 (44 * (f : Int)) = σe 57 0 (42 * (f : Int))
      rw [eo _ _ (by omega) (by omega) (by omega) (by omega), ec _ _ (by omega) (by omega) (by omega) (by omega)]; exact n10 q
    · show τ3 85 0 (44 * (f : Int) + 1) = σe 57 0 (42 * (f : Int) + 1)
      rw [eo _ _ (by omega) (by omega) (by omega) (by omega), ec _ _ (by omega) (by omega) (by omega) (by omega)]; exact n11 q w
    · show τ3 85 0 (44 * (f : Int) + r) = σe 57 0 (42 * (f : Int) + r)
      rw [e3, up_ne (by omega)]; exact k4 r r1 r2 r3
    · rw [gk _ _ (by omega) (by omega) (by omega), m6]; simp
    · rw [e3, up_ne (by omega), k3, e12]
    · rw [gk _ _ (by omega) (by omega) (by omega), m8, e13]
    · rw [gk _ _ (by omega) (by omega) (by omega), m9 (by simp)]; show (f : Int) + 1 + (if (0 : Nat) = 2 ∧ _ then 1 else 0) = _; rw [if_neg (by omega)]; omega
    · exact g3.mono fun t i j q => by unfold Com Cstm at q; unfold Cmr; omega
    · refine G_rn rfl (b_80_0 ?_)
      rw [h19, n1, n2, n3', m7]
      refine ⟨irI (by omega) (by omega), by omega, by omega, by omega, fun _ => ⟨fun _ => ⟨irI (by omega) (by omega), fun τ1 e1 => ⟨τ2, by rw [e1]; exact k6, by omega, fun τ3' e3' => ?_⟩⟩, fun q => absurd q (by omega)⟩, fun q => absurd q (by omega)⟩
      obtain rfl : τ3 = τ3' := e3.trans e3'.symm
      rw [y2]
      refine ⟨by omega, fun q => ⟨by omega, by omega, ?_, ?_⟩, fun q => ⟨by omega, ?_⟩⟩
      · obtain ⟨v, v0, v1, v2, v3⟩ := hl q
        refine fun q0 => ⟨by omega, fun q1 => ?_, fun q1 => ⟨by omega, fun τ4 e4 => ⟨τ', by rw [e4, ← v1 q1]; exact v3, rfl, rfl⟩⟩⟩
        have k2' : kos (tS T b p) = 2 := by
          have : inn (kos (tS T b p)) = 0 := by have := inn_rng (kos (tS T b p)); omega
          unfold inn at this
          split at this
          · omega
          · split at this
            · omega
            · split at this <;> omega
        obtain ⟨q, z1, z2, z3, z4, z5, z6⟩ := wel_let hW x1 x3 x4 k2'
        have mb := m_binder (d := d' + 3) hT x1 mW3.1 hgood (mW3.2 b x1) x3
        rw [h82]
        refine ⟨irI (by omega) (by omega), _, τ3, mb, ?_⟩
        have : mbA b (bnA (tN T b) (tS T b) p) = 40 * b + q := by rw [z1]; unfold mbA; rw [if_neg (by omega)]
        rw [this, show (40 : Int) * f + (40 * b + q) - 40 * b = 40 * f + q by omega]
        refine ⟨irI (by omega) (by omega), irI (by omega) (by omega), irI (by omega) (by omega), by omega, fun τ4 e4 => ⟨τ', by rw [e4, ← v2 q k2' z1]; exact v3, rfl, rfl⟩⟩
      · obtain ⟨v, v0, v1, v2, v3⟩ := hl q
        refine fun q0 => ⟨by omega, ?_⟩
        have := kos_0.mp q0
        rw [h66]
        exact ⟨irI (by omega) (by omega), fun τ4 e4 => ⟨τ', by rw [e4, ← v0 q0]; exact v3, rfl, rfl⟩⟩
      · rw [y3.1]
        exact ⟨τ', hn0 q, rfl, rfl⟩
  have inn0 := inn_rng (kos (tS T b p))
  have c1x : slotOK T (b, f, p, 1) → Chn T b0 ((b, f, p, 1) :: L) := fun h => hc.set h rfl rfl rfl
  have hosm1 : osm β g ((b, f, p, 1) :: L) = osm β g L + hcB β b p := by show osm β g L + (if 1 ≤ 1 then hcB β b p else 0) = _; rw [if_pos (by omega)]
  have ec : ∀ (t : Nat) (j : Int), (t = 57 → j < 42 * (f : Int) + 2) → t ≠ 51 → 50 ≤ t → t ≤ 57 → σe t 0 j = σ t 0 j := fun t j h1 h2 h3 h4 => f0 _ _ _ (by unfold Cop; omega)
  obtain ⟨s1, s2, s3, s4, s5, s6, s7, s8, s9, s10⟩ := hS.1
  have hS1 : SKA T β g σe ((b, f, p, 1) :: L) := by
    refine ⟨⟨?_, ?_, e51, ?_, ?_, fun q => absurd q (by show ¬ (1 : Nat) = 2; omega), fun q => absurd q (by show ¬ (1 : Nat) = 2; omega), fun q => ?_, fun q w => ?_, fun _ r r1 r2 r3 => ?_⟩, hSL⟩
    · exact (ec _ _ (by omega) (by omega) (by omega) (by omega)).trans s1
    · exact (ec _ _ (by omega) (by omega) (by omega) (by omega)).trans s2
    · exact (ec _ _ (by omega) (by omega) (by omega) (by omega)).trans s4
    · show vkA (tG T b) (σe 55 0 (f : Int)) _
      rw [ec _ _ (by omega) (by omega) (by omega) (by omega), e6]; exact s5
    · show 0 ≤ σe 57 0 (42 * (f : Int)) ∧ σe 57 0 (42 * (f : Int)) < osm β g L
      rw [ec _ _ (by omega) (by omega) (by omega) (by omega)]; exact s8 q
    · show 0 ≤ σe 57 0 (42 * (f : Int) + 1) ∧ σe 57 0 (42 * (f : Int) + 1) < osm β g L
      rw [ec _ _ (by omega) (by omega) (by omega) (by omega)]; exact s9 q w
    · have := h57 r r1 r2 r3
      rw [hosm1]
      change (osm β g L : Int) ≤ σe 57 0 (42 * (f : Int) + r) ∧ σe 57 0 (42 * (f : Int) + r) < (osm β g L : Int) + hcB β b p at this
      show 0 ≤ σe 57 0 (42 * (f : Int) + r) ∧ σe 57 0 (42 * (f : Int) + r) < ((osm β g L + hcB β b p : Nat) : Int)
      omega
  have hir : ir (2 + σe 4 b 8) := by rw [e8]; exact irI (by omega) (by omega)
  have i3 : ir (3 * (p : Int)) ∧ ir (3 * (p : Int) + 0) := ⟨irI (by omega) (by omega), irI (by omega) (by omega)⟩
  by_cases hi : 0 < inn (kos (tS T b p))
  · have kd1 := kid1 hgood x3 x4 (by omega)
    have c0s := c0_spec hgood x3 x4
    have sx1 : slotOK T (b, f, p, 1) := ⟨x1, x2, x3, x4, by show (1 : Nat) ≤ 2; omega, fun _ => by show 1 ≤ inn (kos (tS T b p)); omega, fun q => absurd q (by show ¬ (1 : Nat) = 2; omega)⟩
    have hc2 : Chn T b0 ((b, f, c0A (tS T b) p, 0) :: (b, f, p, 1) :: L) := ⟨⟨x1, x2, kd1.1, c0s.2.2.1, by show (0 : Nat) ≤ 2; omega, fun q => absurd q (by show ¬ 1 ≤ (0 : Nat); omega), fun q => absurd q (by show ¬ (0 : Nat) = 2; omega)⟩, Or.inl ⟨rfl, rfl, Or.inl ⟨rfl, rfl⟩⟩, c1x sx1⟩
    have t1 := hS1.1
    obtain ⟨σ', r1, r2, r3, r4⟩ := push_ok (d := d + 1) (d' := d' + 3) hLy hc2 rfl hFe (by rw [e10]; simp) hS1 (by rw [hosm1]; exact hSt2) e14 hst' (by show 0 ≤ σe 1 0 13 ∧ σe 1 0 13 + ((c1K L + (if (1 : Nat) = 1 then 1 else 0) : Nat) : Int) ≤ σe 1 0 12; rw [if_pos rfl]; omega) t1.2.2.2.1 t1.2.2.2.2.1 (fun q => by have := t1.2.2.2.2.2.2.2.1 q; rw [hosm1]; change 0 ≤ σe 57 0 (42 * (f : Int)) ∧ σe 57 0 (42 * (f : Int)) < osm β g L at this; show 0 ≤ σe 57 0 (42 * (f : Int)) ∧ σe 57 0 (42 * (f : Int)) < ((osm β g L + hcB β b p : Nat) : Int); omega) (fun q w => by have := t1.2.2.2.2.2.2.2.2.1 q w; rw [hosm1]; change 0 ≤ σe 57 0 (42 * (f : Int) + 1) ∧ σe 57 0 (42 * (f : Int) + 1) < osm β g L at this; show 0 ≤ σe 57 0 (42 * (f : Int) + 1) ∧ σe 57 0 (42 * (f : Int) + 1) < ((osm β g L + hcB β b p : Nat) : Int); omega)
    refine ⟨σ', _, fun hP => hcls (b_120_16 ⟨hir, fun _ => ⟨fun q => absurd q (by rw [w1, tin_inn hk0]; omega), fun _ => ⟨i3, σ', ?_, hP⟩⟩, fun q => absurd q (by rw [e8]; show ¬ (2 + β 4 b 8 < 2 + β 4 b 8); omega)⟩), r2, r3.trans e12, ?_, fun τ hRR => ?_⟩
    · have w20 : rg 120 (σe 41 b) (3 * (p : Int) + 0) = c0A (tS T b) p := w2 x4 0 (by omega)
      show Rn (d + 3) 118 [vr 1 0, vi (f : Int), vi (rg 120 (σe 41 b) (3 * (p : Int) + 0))] σe vu σ'
      rw [w20]
      exact r1
    · show poK L + (if (1 : Nat) = 1 then 2 else if (1 : Nat) = 2 then 1 else 0) + (if (0 : Nat) = 1 then 2 else if (0 : Nat) = 2 then 1 else 0) ≤ _
      rw [if_pos rfl, if_neg (by omega), if_neg (by omega), hpo]; omega
    · obtain ⟨τ3, q1, q2, q3, q4⟩ := hblk τ hRR
      obtain ⟨m1, m2, m3, m4, m5, m6, m7, m8⟩ := id q1
      have u := m5.1
      obtain ⟨τ', v1, v2, v3⟩ := r4 τ3 (by simpa using q1) q2 u.2.2.2.2.2.2.1 u.2.2.2.2.2.2.2.1 u.2.2.2.2.2.2.2.2.2.1 u.2.2.2.2.2.2.2.2.2.2.1
      exact ⟨τ', q4 τ' (fun q => absurd q (by omega)) (fun _ => v1), v2, q3.tr v3⟩
  · have hi0 : inn (kos (tS T b p)) = 0 := by omega
    have hkd := kd_eq hgood x3 x4
    have hk012 : kos (tS T b p) = 0 ∨ kos (tS T b p) = 1 ∨ kos (tS T b p) = 2 := by
      unfold inn at hi0
      split at hi0
      · omega
      · split at hi0
        · omega
        · split at hi0 <;> omega
    have hval : ∃ v, Rn (d + 3) 121 [vr 1 0, vr 5 b, vi (f : Int), vi (p : Int)] σe (vi v) σe ∧ vkA (kdA T b p) v (σe 32 0 6) ∧ (kos (tS T b p) = 0 → v + kdA T b p = tS T b p - 48) ∧ ∀ τ3, MKA T β σe τ3 ((b, f, p, 1) :: L) → (kos (tS T b p) = 1 → v + kdA T b p = τ3 83 0 f) ∧ (∀ q : Nat, kos (tS T b p) = 2 → bnA (tN T b) (tS T b) p = q → v + kdA T b p = τ3 84 0 (40 * (f : Int) + q)) := by
      rcases hk012 with e | e | e
      · have hk : kdA T b p = 0 := by rw [hkd, if_neg (by omega), if_neg (by omega), if_neg (by omega), if_neg (by omega), if_neg (by omega)]
        have hs0 := kos_0.mp e
        refine ⟨tS T b p - 48, G_rn rfl (b_121_0 ⟨fun q => ⟨fun _ => ?_, fun w => absurd (if_neg (by rw [w1]; omega)) w⟩, fun q => absurd q (by rw [w1]; omega)⟩), ?_, fun _ => by omega, fun τ3 _ => ⟨fun q => by omega, fun q w => by omega⟩⟩
        · rw [w1]; exact ⟨irI (by omega) (by omega), rfl, rfl⟩
        · rw [hk]; exact Or.inr ⟨by omega, by omega, by omega⟩
      · have hk : kdA T b p = tG T b := by rw [hkd, if_neg (by omega), if_pos e]
        have hs0 := kos_1.mp e
        refine ⟨σe 55 0 f, G_rn rfl (b_121_0 ⟨fun q => absurd (by rw [w1]; exact hs0) q, fun q => ⟨?_, rfl⟩⟩), ?_, fun q => by omega, fun τ3 hm => ⟨fun _ => ?_, fun q w => by omega⟩⟩
        · rw [rgN (by omega)]
        · rw [hk]; exact hS1.1.2.2.2.2.1
        · rw [hk]; exact hm.1.2.2.2.2.2.2.2.1.symm
      · have hs0 := kos_2.mp e
        obtain ⟨q, z1, z2, z3, z4, z5, z6⟩ := wel_let hW x1 x3 x4 e
        have hk : kdA T b p = kdA T b (c0A (tS T b) q) := by rw [hkd, if_neg (by omega), if_neg (by omega), if_neg (by omega), if_neg (by omega), if_pos e, z1, if_neg (by omega), Int.toNat_natCast]
        obtain ⟨y, y1, y2, y3, y4, y5⟩ := hc.anc hW q (show q < tN T b by omega) z3 (by show q ≤ p; omega) z6
        change sB y = b at y2
        change sF y = f at y3
        obtain ⟨y6, y7⟩ := y5 z2
        have y8 := y7 z5
        have yL : y ∈ L := by
          rcases List.mem_cons.mp y1 with w | w
          · rw [w] at y8; exact absurd y8 (by show ¬ (0 : Nat) = 2; omega)
          · exact w
        have yK : sK T y = 8 := by show kos (tS T (sB y) (sP y)) = 8; rw [y2, y4]; exact kos_8.mpr z4
        obtain ⟨M, k1, -⟩ := SKA.mem hSL yL
        have k6 := k1.2.2.2.2.2.1 y8 yK
        rw [y2, y3, y4] at k6
        refine ⟨σe 56 0 (40 * (f : Int) + q), G_rn rfl (b_121_0 ⟨fun _ => ⟨fun w => ?_, fun w => ⟨irI (by omega) (by omega), ?_⟩⟩, fun w => absurd w (by rw [w1]; omega)⟩), ?_, fun w => by omega, fun τ3 hm => ⟨fun w => by omega, fun q' w w' => ?_⟩⟩
        · rw [if_pos (by rw [w1]; exact hs0)] at w; omega
        · rw [w3, if_pos ⟨x4, hs0⟩, z1, rg_in ⟨by omega, by omega⟩, show (f : Int) * 40 + q = 40 * f + q by omega]
          exact ⟨irI (by omega) (by omega), rfl, rfl⟩
        · rw [hk]; exact k6
        · obtain rfl : q = q' := by omega
          obtain ⟨M', u⟩ := MKA.mem hm.2 yL
          have u' := u.2.2.2.2.2.2.2.2.1 y8 yK
          rw [y2, y3, y4] at u'
          rw [hk, u']
    obtain ⟨v, r1, r2, r3, r4⟩ := hval
    let σl := up σe 1 0 11 v
    have fl : Fm (fun t _ j => t = 1 ∧ j = 11) σe σl := (Fm.rf σe).up ⟨rfl, rfl⟩
    have agl : ∀ L' : List SL, AgC β σe σl L' := fun L' => AgC.of fl (fun t i j q => by omega)
    have l12 : σl 1 0 12 = σe 1 0 12 := fl _ _ _ (by omega)
    have l13 : σl 1 0 13 = σe 1 0 13 := fl _ _ _ (by omega)
    obtain ⟨σ', t1, t2, t3, t4⟩ := leave_ok (d := d) (d' := d' + 1) hLy hg (σ := σl) hc (hFe.tr (fl.mono fun t i j q => by unfold Crun; omega)) ((fl _ _ _ (by omega)).trans e10) (hSL.cong (fun b hb => (hLy.ho b hb).2) hc.tail (agl L)) (by rw [l12]; exact hSt2.keep fl (fun t i j q => by omega)) ((fl _ _ _ (by omega)).trans e14) (by rw [l12]; exact hst') (by rw [l12, l13]; omega) (by rw [fl 32 0 6 (by omega), show σl 1 0 11 = v from up_eq ⟨rfl, rfl, rfl⟩]; exact r2)
    refine ⟨σ', L, fun hP => hcls (b_120_16 ⟨hir, fun _ => ⟨fun _ => ⟨v, σe, r1, fun σ3 e3 => ⟨σ', by rw [e3]; exact t1, hP⟩⟩, fun q => absurd q (by rw [w1, tin_inn hk0]; omega)⟩, fun q => absurd q (by rw [e8]; show ¬ (2 + β 4 b 8 < 2 + β 4 b 8); omega)⟩), t2, by rw [t3, l12, e12], by rw [hpo]; omega, fun τ hRR => ?_⟩
    obtain ⟨τ3, q1, q2, q3, q4⟩ := hblk τ hRR
    obtain ⟨m1, m2, m3, m4, m5, m6, m7, m8⟩ := id q1
    obtain ⟨v1, v2⟩ := r4 τ3 m5
    let τ4 := up τ3 62 0 29 (v + kdA T b p)
    have g4 : Fm (fun t _ j => t = 62 ∧ j = 29) τ3 τ4 := (Fm.rf τ3).up ⟨rfl, rfl⟩
    obtain ⟨τ', n1, n2, n3⟩ := t4 τ4 (MM.move (b0 := b0) (C := fun _ _ _ => False) hLy hc.tail ⟨m1, m2, m3, m4, m5.2, m6, m7, m8⟩ g4 (fun t i j q => by omega) (agl L) (AgM.of g4 (fun t i j q => by omega)) ((m4.keepC fl (fun t i j w z => by unfold Csto at z; omega)).keep g4 (fun t i j w z => by unfold Cstm at z; omega)) ((g4 _ _ _ (by omega)).trans m6) ((g4 _ _ _ (by omega)).trans (m7.trans l12.symm)) ((g4 _ _ _ (by omega)).trans (m8.trans l13.symm))) ((g4 _ _ _ (by omega)).trans q2) ((g4 _ _ _ (by omega)).trans m5.1.2.2.2.2.2.2.1) (by show up τ3 62 0 29 (v + kdA T b p) 62 0 29 = up σe 1 0 11 v 1 0 11 + kdA T b p; rw [up_eq ⟨rfl, rfl, rfl⟩, up_eq ⟨rfl, rfl, rfl⟩])
    exact ⟨τ', q4 τ' (fun _ => ⟨v + kdA T b p, r3, v1, v2, n1⟩) (fun q => absurd q (by omega)), n2, q3.tr ((g4.mono fun t i j q => by unfold Cmr; omega).tr n3)⟩
end FIN
