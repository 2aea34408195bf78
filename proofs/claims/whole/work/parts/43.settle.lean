section CHOME
variable {T : TP} {b : Int} {d : Nat} {σ : SS}
/-- leastAround -/
theorem c_least (hT : TOKA T) (hW : welA T) (hb : isB b) (hC : CW T σ) {f s : Nat} (hf : f < tN T b) (hm : nmA (tS T b) f = false) (hs : s < tN T b) (hfs : f ≤ s) :
    ∃ h : Nat, Rn (d + 2) 132 [vr 5 b, vi (f : Int), vi (s : Int)] σ (vi (h : Int)) σ ∧ h < tN T b ∧ nmA (tS T b) h = false ∧ h ≤ f ∧ f < enA (tN T b) (tS T b) h ∧ s < enA (tN T b) (tS T b) h ∧ ∀ h', h' < tN T b → nmA (tS T b) h' = false → h' ≤ f → s < enA (tN T b) (tS T b) h' → h' ≤ h := by
  have hn := (hT b hb).1
  have hg := (hW b hb).1
  have hr := (hC.2 b hb).1
  let PP : AV → SS → Prop := fun v σ' => ∃ h : Nat, v = vi (h : Int) ∧ σ' = σ ∧ h < tN T b ∧ nmA (tS T b) h = false ∧ h ≤ f ∧ f < enA (tN T b) (tS T b) h ∧ s < enA (tN T b) (tS T b) h ∧ ∀ h', h' < tN T b → nmA (tS T b) h' = false → h' ≤ f → s < enA (tN T b) (tS T b) h' → h' ≤ h
  have e43 : ∀ p : Nat, p < tN T b → nmA (tS T b) p = false → rg 40 (σ 43 b) (p : Int) = enA (tN T b) (tS T b) p := fun p hp hpm => by rw [rgN (by omega)]; exact ((hr.1 p hp).2.1 hpm).2
  have loop : ∀ (m g : Nat) (i : Int), g ≤ m → g < tN T b → nmA (tS T b) g = false → g ≤ f → f < enA (tN T b) (tS T b) g → 0 ≤ i → i + g ≤ f → (∀ h', h' < tN T b → nmA (tS T b) h' = false → h' ≤ f → s < enA (tN T b) (tS T b) h' → h' ≤ g) →
      G (d + 1) PP 132 4 [vr 5 b, vu, vi (s : Int), vi (g : Int), vi i] [] σ := by
    intro m
    induction m with
    | zero =>
      intro g i hgm hgn hgp hgf hfe hi hig hall
      obtain rfl : g = 0 := by omega
      refine b_132_4 ⟨fun q => absurd q (by omega), fun _ => ⟨fun _ => ⟨0, rfl, rfl, hgn, hgp, hgf, hfe, by rw [en_root hg]; exact hs, hall⟩, fun q => absurd q (by omega)⟩⟩
    | succ m ih =>
      intro g i hgm hgn hgp hgf hfe hi hig hall
      by_cases hg0 : g = 0
      · exact ih g i (by omega) hgn hgp hgf hfe hi hig hall
      refine b_132_4 ⟨fun q => absurd q (by omega), fun _ => ⟨fun q => absurd q (by omega), fun _ => ?_⟩⟩
      rw [e43 g hgn hgp]
      refine ⟨fun q => ⟨g, rfl, rfl, hgn, hgp, hgf, hfe, by omega, hall⟩, fun q => ⟨irI (by omega) (by omega), ?_⟩⟩
      obtain ⟨r, j, r1, r2, r3, r4, r5⟩ := par_ex hg hgn (by omega) hgp
      have hrn : r < tN T b := by omega
      have e42 : rg 40 (σ 42 b) (g : Int) = r := by
        obtain ⟨k1, k2⟩ := kid_xk.mp r5
        rw [rgN (by omega), k2]
        exact (((hr.1 r hrn).2.1 r3).1 j k1).2
      rw [e42]
      refine ih r (i + 1) (by omega) hrn r3 (by omega) (Nat.lt_of_lt_of_le hfe (nest hg hrn r2 r4)) (by omega) (by omega) fun h' a1 a2 a3 a4 => ?_
      have hle := hall h' a1 a2 a3 a4
      have hne : h' ≠ g := by intro w; subst w; omega
      rcases last_spec (fun p => !nmA (tS T b) p && decide (g < enA (tN T b) (tS T b) p)) g with ⟨w, _⟩ | ⟨y, w1, w2, w3, w4⟩
      · unfold parA at r1; omega
      · unfold parA at r1
        have : y = r := by omega
        subst this
        rcases Nat.lt_or_ge y h' with u | u
        · have := w4 h' u (by omega)
          rw [a2] at this
          simp at this
          omega
        · exact u
  have : Ok (d + 2) 132 [vr 5 b, vi (f : Int), vi (s : Int)] σ PP := G_ok rfl (b_132_0 (loop f f 0 (Nat.le_refl _) hf hm (Nat.le_refl _) (en_spec hg hf).1 (Int.le_refl _) (by omega) (fun h' a1 a2 a3 a4 => a3)))
  obtain ⟨v, σ', h1, h, rfl, rfl, h2⟩ := this
  exact ⟨h, h1, h2⟩
/-- findHomes -/
theorem c_homes (hT : TOKA T) (hW : welA T) (hb : isB b) (hC : CW T σ) (hN : CNb T b σ) {ps : Int → Int} (hO : NuOK T b ps (nuF σ b) (σ 4 b 8)) :
    ∃ σ', Rn (d + 3) 96 [vr 4 b] σ vu σ' ∧ Fm (fun t i _ => t = 49 ∧ i = b) σ σ' ∧ ∀ r : Int, 2 ≤ r → r < 2 + σ 4 b 8 → ∃ h : Nat, σ' 49 b r = h ∧ HmOK T b (nuF σ b) r h := by
  have hn := (hT b hb).1
  have hg := (hW b hb).1
  obtain ⟨o1, o2, o3, o4⟩ := NuOK_facts hO
  let PP : AV → SS → Prop := fun v σ' => v = vu ∧ Fm (fun t i _ => t = 49 ∧ i = b) σ σ' ∧ ∀ r : Int, 2 ≤ r → r < 2 + σ 4 b 8 → ∃ h : Nat, σ' 49 b r = h ∧ HmOK T b (nuF σ b) r h
  have hCk : ∀ σ1, Fm (fun t i _ => t = 49 ∧ i = b) σ σ1 → CW T σ1 := fun σ1 h => hC.keep h (fun t i j q => by omega)
  have hNk : ∀ σ1, Fm (fun t i _ => t = 49 ∧ i = b) σ σ1 → CNb T b σ1 ∧ nuF σ1 b = nuF σ b := fun σ1 h => ⟨⟨fun p hp hm => by rw [h _ _ _ (by omega)]; exact hN.1 p hp hm, fun p hp => by rw [h 48 _ _ (by omega), h 47 _ _ (by omega)]; exact hN.2 p hp⟩, funext fun p => h _ _ _ (by omega)⟩
  have outer : ∀ (m : Nat) (r : Int) (σ1 : SS), 2 ≤ r → r + m = 2 + σ 4 b 8 → Fm (fun t i _ => t = 49 ∧ i = b) σ σ1 → (∀ r' : Int, 2 ≤ r' → r' < r → ∃ h : Nat, σ1 49 b r' = h ∧ HmOK T b (nuF σ b) r' h) → G (d + 2) PP 96 2 [vr 4 b, vi r, vu, vu] [] σ1 := by
    intro m
    induction m with
    | zero =>
      intro r σ1 hr hrm hF hh
      have e8 : σ1 4 b 8 = σ 4 b 8 := hF _ _ _ (by omega)
      exact b_96_2 ⟨irI (by omega) (by omega), fun _ => ⟨rfl, hF, fun r' a c => hh r' a (by omega)⟩, fun q => absurd q (by omega)⟩
    | succ m ih =>
      intro r σ1 hr hrm hF hh
      have e8 : σ1 4 b 8 = σ 4 b 8 := hF _ _ _ (by omega)
      have hC1 := hCk σ1 hF
      obtain ⟨hN1, hnu⟩ := hNk σ1 hF
      have e6 := (hC1.1 b hb).1
      obtain ⟨pw, pw1, pw2⟩ := o4 r hr (by omega)
      have hpwm : nmA (tS T b) pw = false := by
        rcases o3 pw pw1 with ⟨z, _⟩ | ⟨_, _, z, _⟩
        · omega
        · exact z.2.1
      refine b_96_2 ⟨irI (by omega) (by omega), fun q => absurd q (by omega), fun _ => ?_⟩
      -- the parts of body b one by one
      have inner : ∀ (m2 k : Nat) (hv : Int), k + m2 = tN T b → ((hv = -6 ∧ ∀ t, t < k → ¬ toA T b (nuF σ b) t r) ∨ (∃ h : Nat, hv = h ∧ h < tN T b ∧ nmA (tS T b) h = false ∧ h < k ∧ (∀ t, t < k → toA T b (nuF σ b) t r → h ≤ t ∧ t < enA (tN T b) (tS T b) h) ∧ (∀ h', h' < tN T b → nmA (tS T b) h' = false → (∀ t, t < k → toA T b (nuF σ b) t r → h' ≤ t ∧ t < enA (tN T b) (tS T b) h') → h' ≤ h))) →
          G (d + 2) PP 96 12 [vr 4 b, vi r, vi hv, vi (k : Int)] [] σ1 := by
        intro m2
        induction m2 with
        | zero =>
          intro k hv hk hst
          obtain rfl : k = tN T b := by omega
          refine b_96_12 ⟨fun _ σ2 e2 => ⟨irI (by omega) (by omega), ?_⟩, fun q => absurd q (by omega)⟩
          rw [us_in ⟨by omega, by omega⟩] at e2
          refine ih (r + 1) σ2 (by omega) (by omega) (by rw [e2]; exact hF.up ⟨rfl, rfl⟩) fun r' a c => ?_
          by_cases w : r' = r
          · subst w
            rcases hst with ⟨z1, z2⟩ | ⟨h, z1, z2, z3, z4, z5, z6⟩
            · exact absurd ⟨hpwm, Or.inl pw2⟩ (z2 pw pw1)
            · exact ⟨h, by rw [e2, up_eq ⟨rfl, rfl, rfl⟩]; exact z1, z2, z3, z5, z6⟩
          · rw [e2, up_ne (by omega)]; exact hh r' a (by omega)
        | succ m2 ih2 =>
          intro k hv hk hst
          have hkn : k < tN T b := by omega
          have i2 := ih2 (k + 1)
          rw [nat1] at i2
          have hto := c_touch (d := d) hT hW hb hC1 hN1 hkn (r := r) (by omega)
          rw [hnu] at hto
          have hir : ir ((k : Int) + 1) := irI (by omega) (by omega)
          refine b_96_12 ⟨fun q => absurd q (by omega), fun _ => ⟨_, σ1, hto, fun q => ⟨hir, i2 hv (by omega) ?_⟩, fun q => ?_⟩⟩
          · have hno : ¬ toA T b (nuF σ b) k r := fun w => by
              rw [if_pos (toB_iff.mpr w)] at q; cases q
            rcases hst with ⟨z1, z2⟩ | ⟨h, z1, z2, z3, z4, z5, z6⟩
            · refine Or.inl ⟨z1, fun t ht => ?_⟩
              rcases Nat.eq_or_lt_of_le (Nat.le_of_lt_succ ht) with w | w
              · subst w; exact hno
              · exact z2 t w
            · refine Or.inr ⟨h, z1, z2, z3, by omega, fun t ht hta => ?_, fun h' a1 a2 a3 => z6 h' a1 a2 fun t ht hta => a3 t (by omega) hta⟩
              rcases Nat.eq_or_lt_of_le (Nat.le_of_lt_succ ht) with w | w
              · subst w; exact absurd hta hno
              · exact z5 t w hta
          · have hyes : toA T b (nuF σ b) k r := by
              rcases em (toA T b (nuF σ b) k r) with w | w
              · exact w
              · exfalso; apply q; rw [if_neg (fun z => w (toB_iff.mp z))]
            have hkm := hyes.1
            rcases hst with ⟨z1, z2⟩ | ⟨h, z1, z2, z3, z4, z5, z6⟩
            · refine ⟨fun w => absurd z1 w, fun _ => ⟨hir, i2 _ (by omega) (Or.inr ⟨k, rfl, hkn, hkm, by omega, fun t ht hta => ?_, fun h' a1 a2 a3 => (a3 k (by omega) hyes).1⟩)⟩⟩
              rcases Nat.eq_or_lt_of_le (Nat.le_of_lt_succ ht) with w | w
              · subst w; exact ⟨Nat.le_refl _, (en_spec hg hkn).1⟩
              · exact absurd hta (z2 t w)
            · refine ⟨fun _ => ?_, fun w => absurd w (by omega)⟩
              rw [z1]
              obtain ⟨h2, y1, y2, y3, y4, y5, y6, y7⟩ := c_least (d := d) hT hW hb hC1 z2 z3 hkn (by omega)
              refine ⟨_, σ1, y1, hir, i2 _ (by omega) (Or.inr ⟨h2, rfl, y2, y3, by omega, fun t ht hta => ?_, fun h' a1 a2 a3 => ?_⟩)⟩
              · rcases Nat.eq_or_lt_of_le (Nat.le_of_lt_succ ht) with w | w
                · subst w; exact ⟨by omega, y6⟩
                · obtain ⟨u1, u2⟩ := z5 t w hta
                  refine ⟨by omega, ?_⟩
                  rcases Nat.eq_or_lt_of_le y4 with v | v
                  · rw [v]; exact u2
                  · exact Nat.lt_of_lt_of_le u2 (nest hg y2 v y5)
              · exact y7 h' a1 a2 (z6 h' a1 a2 fun t ht hta => a3 t (by omega) hta) (a3 k (by omega) hyes).2
      exact inner (tN T b) 0 (-6) (by omega) (Or.inl ⟨rfl, fun t ht => by omega⟩)
  have : Ok (d + 3) 96 [vr 4 b] σ PP := G_ok rfl (b_96_0 (outer (σ 4 b 8).toNat 2 σ (by omega) (by omega) (Fm.rf σ) (fun r' a c => by omega)))
  obtain ⟨v, σ', h1, rfl, h2, h3⟩ := this
  exact ⟨σ', h1, h2, h3⟩
theorem ef_keep {C : Nat → Int → Int → Prop} {σ σ' : SS} (hF : Fm C σ σ') (hc : ∀ t i j, C t i j → t ≠ 4 ∨ j ≠ 7) : efF σ' = efF σ := by
  funext c
  exact hF 4 c 7 fun q => by have := hc _ _ _ q; omega
theorem nu_keep {C : Nat → Int → Int → Prop} {σ σ' : SS} (hF : Fm C σ σ') (hc : ∀ t i j, C t i j → t ≠ 47) : nuF σ' = nuF σ := by
  funext c p
  exact hF 47 c p fun q => by have := hc _ _ _ q; omega
theorem CNb.keep {C : Nat → Int → Int → Prop} {σ σ' : SS} (h : CNb T b σ) (hF : Fm C σ σ') (hc : ∀ t i j, C t i j → t ≠ 47 ∧ t ≠ 48) : CNb T b σ' := by
  have e7 : ∀ p : Int, σ' 47 b p = σ 47 b p := fun p => hF _ _ _ fun q => (hc _ _ _ q).1 rfl
  have e8 : ∀ p : Int, σ' 48 b p = σ 48 b p := fun p => hF _ _ _ fun q => (hc _ _ _ q).2 rfl
  exact ⟨fun p hp hm => by rw [e7]; exact h.1 p hp hm, fun p hp => by rw [e8, e7]; exact h.2 p hp⟩
def Cef : Nat → Int → Int → Prop := fun t _ j => t = 4 ∧ j = 7
/-- findEffects -/
theorem c_effects (hT : TOKA T) (hW : welA T) (hC : CW T σ) (hN : ∀ b, isB b → CNb T b σ) : ∃ σ', Rn (d + 5) 110 [vr 2 0] σ vu σ' ∧ Fm Cef σ σ' ∧ EfOK T (nuF σ) (psA σ) (efF σ') := by
  let PP : AV → SS → Prop := fun v σ' => v = vu ∧ Fm Cef σ σ' ∧ EfOK T (nuF σ) (psA σ) (efF σ')
  have hCk : ∀ σ1, Fm Cef σ σ1 → CW T σ1 ∧ (∀ b, isB b → CNb T b σ1) ∧ nuF σ1 = nuF σ ∧ psA σ1 = psA σ := fun σ1 h => ⟨hC.keep h (fun t i j q => by unfold Cef at q; omega), fun b hb => (hN b hb).keep h (fun t i j q => by unfold Cef at q; omega), nu_keep h (fun t i j q => by unfold Cef at q; omega), ps_keep h (fun t i j q => by unfold Cef at q; omega)⟩
  have round : ∀ (m r : Nat), r + m = 13 → ∀ σ1, Fm Cef σ σ1 → EfUp T (nuF σ) (psA σ) (efF σ1) → (r : Int) ≤ cnE (efF σ1) → G (d + 4) PP 110 19 [vr 2 0, vi 1, vi (r : Int), vu, vu, vu] [] σ1 := by
    intro m
    induction m with
    | zero => intro r hr σ1 hF hU hc; have := cnE_le (efF σ1); omega
    | succ m ih =>
      intro r hr σ1 hF hU hc
      have inner : ∀ (m2 k : Nat), k + m2 = 3 → ∀ σ2, Fm Cef σ σ2 → EfUp T (nuF σ) (psA σ) (efF σ2) →
          (((r : Int) + 1 ≤ cnE (efF σ2) → G (d + 4) PP 110 28 [vr 2 0, vi 1, vi (r : Int), vi (k : Int), vu, vu] [] σ2) ∧
           ((r : Int) ≤ cnE (efF σ2) → (∀ c : Int, 0 ≤ c → c < k → efV T (nuF σ) (psA σ) (efF σ2) c = efF σ2 c) → G (d + 4) PP 110 28 [vr 2 0, vi 0, vi (r : Int), vi (k : Int), vu, vu] [] σ2)) := by
        intro m2
        induction m2 with
        | zero =>
          intro k hk σ2 hF2 hU2
          have hir : ir ((r : Int) + 1) := irI (by omega) (by omega)
          refine ⟨fun h1 => b_110_28 ⟨fun _ => ⟨hir, ?_⟩, fun q => absurd q (by omega)⟩, fun h1 h2 => b_110_28 ⟨fun _ => ⟨hir, ?_⟩, fun q => absurd q (by omega)⟩⟩
          · have := ih (r + 1) (by omega) σ2 hF2 hU2 (by omega)
            rw [nat1] at this
            exact this
          · have fin : PP vu σ2 := ⟨rfl, hF2, hU2, fun b hb => by rw [h2 b hb.1 (by have := hb.2; omega)]; exact lbE.rf _⟩
            exact b_110_19 ⟨fun _ => fin, fun _ => ⟨fun _ => fin, fun q => absurd rfl q⟩⟩
        | succ m2 ih2 =>
          intro k hk σ2 hF2 hU2
          have hkb : isB (k : Int) := by unfold isB; omega
          have hir : ir ((k : Int) + 1) := irI (by omega) (by omega)
          obtain ⟨q1, q2, q3, q4⟩ := hCk σ2 hF2
          have j1 := c_effect (d := d) hT hW hkb q1 (q2 k hkb) (fun c hc => by obtain ⟨x1, x2, x3, x4, e⟩ := hU2.1 c hc; rw [e]; exact (e4_rng x1 x2 x3 x4).1)
          rw [q3, q4] at j1
          have hset := EfUp_set hW hU2 hkb
          have hcn := cnE_up hU2.1 hset.1.1 hset.2
          have step : ∀ σ3, σ3 = up σ2 4 k 7 (efV T (nuF σ) (psA σ) (efF σ2) k) → Fm Cef σ σ3 ∧ efF σ3 = setP (efF σ2) k (efV T (nuF σ) (psA σ) (efF σ2) k) := fun σ3 e3 => by
            refine ⟨by rw [e3]; exact hF2.up ⟨rfl, rfl⟩, ?_⟩
            funext c
            unfold setP efF
            rw [e3]
            split
            · rename_i q; rw [q, up_eq ⟨rfl, rfl, rfl⟩]; rfl
            · rename_i q; rw [up_ne (by omega)]
          have i2 := fun σ3 e3 => ih2 (k + 1) (by omega) σ3 (step σ3 e3).1 (by rw [(step σ3 e3).2]; exact hset.1)
          rw [nat1] at i2
          have ek : ∀ σ3, σ3 = up σ2 4 k 7 (efV T (nuF σ) (psA σ) (efF σ2) k) → σ3 4 k 7 = efV T (nuF σ) (psA σ) (efF σ2) k := fun σ3 e3 => by rw [e3, up_eq ⟨rfl, rfl, rfl⟩]
          refine ⟨fun h1 => b_110_28 ⟨fun q => absurd q (by omega), fun _ => ⟨hkb, _, σ2, j1, fun σ3 e3 => ⟨fun _ => ⟨hir, (i2 σ3 e3).1 (by rw [(step σ3 e3).2]; omega)⟩, fun q => absurd q (by decide)⟩⟩⟩, fun h1 h2 => b_110_28 ⟨fun q => absurd q (by omega), fun _ => ⟨hkb, _, σ2, j1, fun σ3 e3 => ⟨fun q => absurd rfl q, fun _ => ⟨fun q => ⟨hir, (i2 σ3 e3).2 (by rw [(step σ3 e3).2]; omega) fun c c1 c2 => ?_⟩, fun q => ⟨hir, (i2 σ3 e3).1 ?_⟩⟩⟩⟩⟩⟩
          · rw [ek σ3 e3] at q
            have same : efF σ3 = efF σ2 := by
              rw [(step σ3 e3).2]; funext c; unfold setP
              split
              · rename_i w; rw [w]; exact q
              · rfl
            rw [same]
            by_cases hck : c = k
            · rw [hck]; exact q
            · exact h2 c c1 (by omega)
          · rw [ek σ3 e3] at q
            rw [(step σ3 e3).2]
            have := hcn.2 ⟨k, hkb, fun w => q ?_⟩
            · omega
            · have e : setP (efF σ2) k (efV T (nuF σ) (psA σ) (efF σ2) k) k = efV T (nuF σ) (psA σ) (efF σ2) k := if_pos rfl
              rw [e] at w; exact w.symm
      refine b_110_19 ⟨fun q => absurd q (by omega), fun _ => ⟨fun q => absurd q (by decide), fun _ => ?_⟩⟩
      exact (inner 3 0 (by omega) σ1 hF hU).2 hc (fun c h1 h2 => by omega)
  have zero : ∀ (m k : Nat), k + m = 3 → ∀ σ1, Fm Cef σ σ1 → (∀ c : Int, 0 ≤ c → c < k → σ1 4 c 7 = 0) → G (d + 4) PP 110 2 [vr 2 0, vi (k : Int), vu, vu, vu, vu] [] σ1 := by
    intro m
    induction m with
    | zero =>
      intro k hk σ1 hF h0
      refine b_110_2 ⟨fun _ => ?_, fun q => absurd q (by omega)⟩
      have z : ∀ b, isB b → efF σ1 b = 0 := fun b hb => h0 b hb.1 (by have := hb.2; omega)
      have hU : EfUp T (nuF σ) (psA σ) (efF σ1) := ⟨fun b hb => by rw [z b hb]; exact V4_0, fun b hb => by rw [z b hb]; exact lbE_0 _, fun q _ _ b hb => by rw [z b hb]; exact lbE_0 _⟩
      exact round 13 0 (by omega) σ1 hF hU (cnE_le _).1
    | succ m ih =>
      intro k hk σ1 hF h0
      have i1 := ih (k + 1) (by omega)
      rw [nat1] at i1
      refine b_110_2 ⟨fun q => absurd q (by omega), fun _ => ⟨by omega, fun σ2 e2 => ⟨irI (by omega) (by omega), i1 σ2 (by rw [e2]; exact hF.up ⟨rfl, rfl⟩) fun c c1 c2 => ?_⟩⟩⟩
      by_cases q : c = k
      · rw [e2, up_eq ⟨rfl, q, rfl⟩]
      · rw [e2, up_ne (by omega)]; exact h0 c c1 (by omega)
  have : Ok (d + 5) 110 [vr 2 0] σ PP := G_ok rfl (b_110_0 (zero 3 0 (by omega) σ (Fm.rf σ) (fun c h1 h2 => by omega)))
  obtain ⟨v, σ', h1, rfl, h2, h3⟩ := this
  exact ⟨σ', h1, h2, h3⟩
/-- all is laid out in the class -/
def CLay (T : TP) (σ : SS) : Prop := PsOK T (psA σ) ∧ EfOK T (nuF σ) (psA σ) (efF σ) ∧ ∀ b, isB b → NuOK T b (psA σ) (nuF σ b) (σ 4 b 8) ∧ CNb T b σ ∧ ∀ r : Int, 2 ≤ r → r < 2 + σ 4 b 8 → ∃ h : Nat, σ 49 b r = h ∧ HmOK T b (nuF σ b) r h
theorem CLay.keep {C : Nat → Int → Int → Prop} {σ σ' : SS} (h : CLay T σ) (hF : Fm C σ σ') (hc : ∀ t i j, C t i j → t ≠ 4 ∧ t ≠ 47 ∧ t ≠ 48 ∧ t ≠ 49) : CLay T σ' := by
  have e1 : psA σ' = psA σ := ps_keep hF fun t i j q => Or.inl (hc t i j q).1
  have e2 : efF σ' = efF σ := ef_keep hF fun t i j q => Or.inl (hc t i j q).1
  have e3 : nuF σ' = nuF σ := nu_keep hF fun t i j q => (hc t i j q).2.1
  have e4 : ∀ b, σ' 4 b 8 = σ 4 b 8 := fun b => hF _ _ _ fun q => (hc _ _ _ q).1 rfl
  refine ⟨by rw [e1]; exact h.1, by rw [e1, e2, e3]; exact h.2.1, fun b hb => ?_⟩
  obtain ⟨h1, h2, h3⟩ := h.2.2 b hb
  refine ⟨by rw [e1, e3, e4]; exact h1, h2.keep hF (fun t i j q => ⟨(hc t i j q).2.1, (hc t i j q).2.2.1⟩), fun r r1 r2 => ?_⟩
  rw [e4] at r2
  rw [e3, hF _ _ _ fun q => (hc _ _ _ q).2.2.2 rfl]
  exact h3 r r1 r2
end CHOME
