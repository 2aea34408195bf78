section CNUM
variable {T : TP} {b : Int} {d : Nat} {σ : SS}
theorem ps_keep {C : Nat → Int → Int → Prop} {σ σ' : SS} (hF : Fm C σ σ') (hc : ∀ t i j, C t i j → t ≠ 4 ∨ j ≠ 6) : psA σ' = psA σ := by
  funext c
  exact hF 4 c 6 fun q => by have := hc _ _ _ q; omega
theorem c_38k (hT : TOKA T) (hb : isB b) (hC : CW T σ) {k : Nat} (hk : k < tN T b) : rg 40 (σ 38 b) (k : Int) = 1 ↔ bxA T b k := by
  have hn := (hT b hb).1
  rw [rgN (by omega), (hC.2 b hb).2 k hk]
  unfold bxA
  cases hm : nmA (tS T b) k
  · simp [hk]
  · simp
theorem c_joinParts (hT : TOKA T) (hW : welA T) (hb : isB b) (hC : CW T σ) :
    ∃ σ', Rn (d + 4) 90 [vr 4 b, vr 2 0] σ vu σ' ∧ Fm (fun t i j => i = b ∧ (t = 46 ∨ (t = 4 ∧ j = 6))) σ σ' ∧ EqL (lbA b σ') (EdA T b (psA σ)) ∧ ((σ' 4 b 6 = 1 ∧ reA T b (psA σ) 40 41) ∨ (σ' 4 b 6 = 0 ∧ ¬ reA T b (psA σ) 40 41)) := by
  have hn := (hT b hb).1
  have hg := (hW b hb).1
  have h0 := Good_n hg
  have w0 := wel_0 hW hb
  let PP : AV → SS → Prop := fun v σ' => v = vu ∧ Fm (fun t i j => i = b ∧ (t = 46 ∨ (t = 4 ∧ j = 6))) σ σ' ∧ EqL (lbA b σ') (EdA T b (psA σ)) ∧ ((σ' 4 b 6 = 1 ∧ reA T b (psA σ) 40 41) ∨ (σ' 4 b 6 = 0 ∧ ¬ reA T b (psA σ) 40 41))
  have fin : ∀ σ1, Fm (fun t i _ => t = 46 ∧ i = b) σ σ1 → EqL (lbA b σ1) (EdA T b (psA σ)) → ((rg 42 (σ1 46 b) 40 ≠ rg 42 (σ1 46 b) 41 → ((0 : Int) = 0 ∨ (0 : Int) = 1) ∧ ∀ σ2, σ2 = up σ1 4 b 6 0 → PP vu σ2) ∧ (rg 42 (σ1 46 b) 40 = rg 42 (σ1 46 b) 41 → ((1 : Int) = 0 ∨ (1 : Int) = 1) ∧ ∀ σ2, σ2 = up σ1 4 b 6 1 → PP vu σ2)) := by
    intro σ1 hF hL
    have e40 : rg 42 (σ1 46 b) 40 = lbA b σ1 40 := rg_in (by decide)
    have e41 : rg 42 (σ1 46 b) 41 = lbA b σ1 41 := rg_in (by decide)
    rw [e40, e41]
    have hre := hL 40 41 (by omega) (by omega)
    have hlab : ∀ v, lbA b (up σ1 4 b 6 v) = lbA b σ1 := fun v => by funext x; exact up_ne (by omega)
    have hF2 : ∀ v, Fm (fun t i j => i = b ∧ (t = 46 ∨ (t = 4 ∧ j = 6))) σ (up σ1 4 b 6 v) := fun v => (hF.mono fun t i j q => ⟨q.2, Or.inl q.1⟩).up ⟨rfl, Or.inr ⟨rfl, rfl⟩⟩
    refine ⟨fun q => ⟨Or.inl rfl, fun σ2 e => ?_⟩, fun q => ⟨Or.inr rfl, fun σ2 e => ?_⟩⟩
    · rw [e]; exact ⟨rfl, hF2 0, by rw [hlab]; exact hL, Or.inr ⟨up_eq ⟨rfl, rfl, rfl⟩, fun w => q (hre.mpr w)⟩⟩
    · rw [e]; exact ⟨rfl, hF2 1, by rw [hlab]; exact hL, Or.inl ⟨up_eq ⟨rfl, rfl, rfl⟩, hre.mp q⟩⟩
  have toEd : ∀ x y, EkA T b (psA σ) (tN T b) x y ↔ ((EdQ T b (psA σ) x y) ∨ (EdQ T b (psA σ) y x)) := fun x y => by
    constructor
    · rintro (⟨_, w⟩ | ⟨_, w⟩)
      · exact Or.inl w
      · exact Or.inr w
    · rintro (w | w)
      · exact Or.inl ⟨w.1.1, w⟩
      · exact Or.inr ⟨w.1.1, w⟩
  have loop2 : ∀ (m k : Nat) (σ1 : SS), k + m = tN T b → Fm (fun t i _ => t = 46 ∧ i = b) σ σ1 → EqL (lbA b σ1) (EkA T b (psA σ) k) → G (d + 3) PP 90 14 [vr 4 b, vr 2 0, vi (k : Int)] [] σ1 := by
    intro m
    induction m with
    | zero =>
      intro k σ1 hk hF hL
      have hC1 : CW T σ1 := hC.keep hF (fun t i j q => by omega)
      have e6 := (hC1.1 b hb).1
      obtain rfl : k = tN T b := by omega
      refine b_90_14 ⟨fun _ => ⟨fun h3 => ?_, fun h3 => ?_⟩, fun q => absurd q (by omega)⟩
      · rw [(hC1.1 b hb).2.2.1] at h3
        have hL2 : EqL (lbA b σ1) (EdA T b (psA σ)) := hL.cong (fun x y w => ?_) (fun x y w => ?_)
        · exact fin σ1 hF hL2
        · rcases (toEd x y).mp w with w | w
          · exact Or.inl (EdP_iff.mpr (Or.inl w))
          · exact Or.inr (EdP_iff.mpr (Or.inl w))
        · refine (toEd x y).mpr ?_
          rcases w with w | w
          · rcases EdP_iff.mp w with w | ⟨w1, w2, w3⟩
            · exact Or.inl w
            · subst w2; have := w1.2.2; omega
          · rcases EdP_iff.mp w with w | ⟨w1, w2, w3⟩
            · exact Or.inr w
            · subst w2; have := w1.2.2; omega
      · rw [(hC1.1 b hb).2.2.1] at h3
        have hbx : bxA T b 0 := ⟨h0, rfl, by rw [w0]; exact h3⟩
        obtain ⟨σ2, j1, j2, j3⟩ := c_joinE (d := d + 1) (b := b) (σ := σ1) (show 0 < 42 by omega) (show 41 < 42 by omega) (fun x y w => Ek_lt hT hW hb w) hL
        refine ⟨σ2, j1, fin σ2 (hF.tr j2) (j3.cong (fun x y w => ?_) (fun x y w => ?_))⟩
        · rcases w with w | ⟨rfl, rfl⟩ | ⟨rfl, rfl⟩
          · rcases (toEd x y).mp w with w | w
            · exact Or.inl (EdP_iff.mpr (Or.inl w))
            · exact Or.inr (EdP_iff.mpr (Or.inl w))
          · exact Or.inl (EdP_iff.mpr (Or.inr ⟨hbx, rfl, rfl⟩))
          · exact Or.inr (EdP_iff.mpr (Or.inr ⟨hbx, rfl, rfl⟩))
        · rcases w with w | w
          · rcases EdP_iff.mp w with w | ⟨w1, w2, w3⟩
            · exact Or.inl ((toEd x y).mpr (Or.inl w))
            · exact Or.inr (Or.inl ⟨w2, w3⟩)
          · rcases EdP_iff.mp w with w | ⟨w1, w2, w3⟩
            · exact Or.inl ((toEd x y).mpr (Or.inr w))
            · exact Or.inr (Or.inr ⟨w3, w2⟩)
    | succ m ih =>
      intro k σ1 hk hF hL
      have hC1 : CW T σ1 := hC.keep hF (fun t i j q => by omega)
      have e6 := (hC1.1 b hb).1
      have hkn : k < tN T b := by omega
      have hps : psA σ1 = psA σ := ps_keep hF (fun t i j q => by omega)
      have i1 := ih (k + 1)
      rw [nat1] at i1
      have h38 := c_38k hT hb hC1 hkn
      refine b_90_14 ⟨fun q => absurd q (by omega), fun _ => ⟨fun h1 => ⟨irI (by omega) (by omega), i1 σ1 (by omega) hF ?_⟩, fun h1 => ?_⟩⟩
      · refine hL.cong (fun x y w => Ek_step.mpr (Or.inl w)) (fun x y w => ?_)
        rcases Ek_step.mp w with w | ⟨_, w⟩ | ⟨_, w⟩
        · exact w
        · exact absurd (h38.mpr w.1) h1
        · exact absurd (h38.mpr w.1) h1
      · rw [← hps] at hL
        obtain ⟨σ2, j1, j2, j3⟩ := c_joinPart (d := d) hT hW hb hC1 (h38.mp h1) hL
        rw [hps] at j3
        exact ⟨σ2, j1, irI (by omega) (by omega), i1 σ2 (by omega) (hF.tr j2) j3⟩
  have loop1 : ∀ (m k : Nat) (σ1 : SS), k + m = 42 → Fm (fun t i _ => t = 46 ∧ i = b) σ σ1 → (∀ x : Nat, x < k → σ1 46 b x = x) → G (d + 3) PP 90 2 [vr 4 b, vr 2 0, vi (k : Int)] [] σ1 := by
    intro m
    induction m with
    | zero =>
      intro k σ1 hk hF hl
      refine b_90_2 ⟨fun _ => loop2 (tN T b) 0 σ1 (by omega) hF ?_, fun q => absurd q (by omega)⟩
      exact (EqL.init.cong2 fun x hx => hl x (by omega)).cong (fun x y w => w.elim) (fun x y w => by rcases w with ⟨w, _⟩ | ⟨w, _⟩ <;> omega)
    | succ m ih =>
      intro k σ1 hk hF hl
      have i1 := ih (k + 1)
      rw [nat1] at i1
      refine b_90_2 ⟨fun q => absurd q (by omega), fun _ σ2 e2 => ⟨irI (by omega) (by omega), i1 σ2 (by omega) ?_ fun x hx => ?_⟩⟩
      · rw [us_in ⟨by omega, by omega⟩] at e2; rw [e2]; exact hF.up ⟨rfl, rfl⟩
      · rw [us_in ⟨by omega, by omega⟩] at e2
        by_cases q : x = k
        · subst q; rw [e2, up_eq ⟨rfl, rfl, rfl⟩]
        · rw [e2, up_ne (by omega)]; exact hl x (by omega)
  have : Ok (d + 4) 90 [vr 4 b, vr 2 0] σ PP := G_ok rfl (b_90_0 (loop1 42 0 σ (by omega) (Fm.rf σ) (fun x hx => by omega)))
  obtain ⟨v, σ', h1, rfl, h2, h3, h4⟩ := this
  exact ⟨σ', h1, h2, h3, h4⟩
def cn3 (p : Int → Int) : Int := p 0 + p 1 + p 2
theorem cn3_le {T : TP} {p : Int → Int} (h : PsUp T p) : 0 ≤ cn3 p ∧ cn3 p ≤ 3 := by
  have a0 := h.1 0 (by unfold isB; omega); have a1 := h.1 1 (by unfold isB; omega); have a2 := h.1 2 (by unfold isB; omega)
  unfold cn3; omega
theorem cn3_up {T : TP} {p q : Int → Int} (hp : PsUp T p) (hq : PsUp T q) (h : leP p q) : cn3 p ≤ cn3 q ∧ ((∃ b, isB b ∧ p b ≠ q b) → cn3 p + 1 ≤ cn3 q) := by
  have a0 := hp.1 0 (by unfold isB; omega); have a1 := hp.1 1 (by unfold isB; omega); have a2 := hp.1 2 (by unfold isB; omega)
  have c0 := hq.1 0 (by unfold isB; omega); have c1 := hq.1 1 (by unfold isB; omega); have c2 := hq.1 2 (by unfold isB; omega)
  have l0 := h 0 (by unfold isB; omega); have l1 := h 1 (by unfold isB; omega); have l2 := h 2 (by unfold isB; omega)
  unfold cn3
  refine ⟨by omega, fun ⟨b, hb, e⟩ => ?_⟩
  have : b = 0 ∨ b = 1 ∨ b = 2 := by unfold isB at hb; omega
  rcases this with rfl | rfl | rfl <;> omega
def Cps : Nat → Int → Int → Prop := fun t _ j => t = 46 ∨ (t = 4 ∧ j = 6)
theorem c_passes (hT : TOKA T) (hW : welA T) (hC : CW T σ) : ∃ σ', Rn (d + 5) 109 [vr 2 0] σ vu σ' ∧ Fm Cps σ σ' ∧ PsOK T (psA σ') ∧ ∀ b, isB b → EqL (lbA b σ') (EdA T b (psA σ')) := by
  let PP : AV → SS → Prop := fun v σ' => v = vu ∧ Fm Cps σ σ' ∧ PsOK T (psA σ') ∧ ∀ b, isB b → EqL (lbA b σ') (EdA T b (psA σ'))
  have hCk : ∀ σ1, Fm Cps σ σ1 → CW T σ1 := fun σ1 h => hC.keep h (fun t i j q => by unfold Cps at q; omega)
  have round : ∀ (m r : Nat), r + m = 4 → ∀ σ1, Fm Cps σ σ1 → PsUp T (psA σ1) → (r : Int) ≤ cn3 (psA σ1) → G (d + 4) PP 109 19 [vr 2 0, vi 1, vi (r : Int), vu, vu, vu] [] σ1 := by
    intro m
    induction m with
    | zero => intro r hr σ1 hF hU hc; have := cn3_le hU; omega
    | succ m ih =>
      intro r hr σ1 hF hU hc
      have inner : ∀ (m2 k : Nat), k + m2 = 3 → ∀ σ2, Fm Cps σ σ2 → PsUp T (psA σ2) →
          (((r : Int) + 1 ≤ cn3 (psA σ2) → G (d + 4) PP 109 28 [vr 2 0, vi 1, vi (r : Int), vi (k : Int), vu, vu] [] σ2) ∧
           ((r : Int) ≤ cn3 (psA σ2) → (∀ c : Int, 0 ≤ c → c < k → EqL (lbA c σ2) (EdA T c (psA σ2)) ∧ (reA T c (psA σ2) 40 41 → psA σ2 c = 1)) → G (d + 4) PP 109 28 [vr 2 0, vi 0, vi (r : Int), vi (k : Int), vu, vu] [] σ2)) := by
        intro m2
        induction m2 with
        | zero =>
          intro k hk σ2 hF2 hU2
          have hir : ir ((r : Int) + 1) := irI (by omega) (by omega)
          refine ⟨fun h1 => b_109_28 ⟨fun _ => ⟨hir, ?_⟩, fun q => absurd q (by omega)⟩, fun h1 h2 => b_109_28 ⟨fun _ => ⟨hir, ?_⟩, fun q => absurd q (by omega)⟩⟩
          · have := ih (r + 1) (by omega) σ2 hF2 hU2 (by omega)
            rw [nat1] at this
            exact this
          · have fin : PP vu σ2 := ⟨rfl, hF2, ⟨hU2, fun b hb => (h2 b hb.1 (by have := hb.2; omega)).2⟩, fun b hb => (h2 b hb.1 (by have := hb.2; omega)).1⟩
            exact b_109_19 ⟨fun _ => fin, fun _ => ⟨fun _ => fin, fun q => absurd rfl q⟩⟩
        | succ m2 ih2 =>
          intro k hk σ2 hF2 hU2
          have hkb : isB (k : Int) := by unfold isB; omega
          have hir : ir ((k : Int) + 1) := irI (by omega) (by omega)
          obtain ⟨σ3, j1, j2, j3, j4⟩ := c_joinParts (d := d) hT hW hkb (hCk σ2 hF2)
          have hF3 : Fm Cps σ σ3 := hF2.tr (j2.mono fun t i j q => by unfold Cps; omega)
          have hps : psA σ3 = setP (psA σ2) k (σ3 4 k 6) := by
            funext c
            unfold setP
            split
            · rename_i q; rw [q]; rfl
            · exact j2 4 c 6 (by omega)
          have hset := PsUp_set hW hU2 hU2 (fun _ _ e => e) hkb j4 (fun e => e)
          rw [← hps] at hset
          have hcn := cn3_up hU2 hset.1 hset.2
          have i2 := ih2 (k + 1) (by omega) σ3 hF3 hset.1
          rw [nat1] at i2
          refine ⟨fun h1 => b_109_28 ⟨fun q => absurd q (by omega), fun _ => ⟨hkb, σ3, j1, fun _ => ⟨hir, i2.1 (by omega)⟩, fun q => absurd q (by decide)⟩⟩, fun h1 h2 => b_109_28 ⟨fun q => absurd q (by omega), fun _ => ⟨hkb, σ3, j1, fun q => absurd rfl q, fun _ => ⟨fun q => ⟨hir, i2.2 (by omega) fun c c1 c2 => ?_⟩, fun q => ⟨hir, i2.1 ?_⟩⟩⟩⟩⟩
          · have same : psA σ3 = psA σ2 := by
              rw [hps]; funext c; unfold setP
              split
              · rename_i w; rw [w]; exact q
              · rfl
            rw [same]
            by_cases hck : c = k
            · subst hck
              refine ⟨j3, fun w => ?_⟩
              rcases j4 with z | z
              · rw [← same]; exact z.1
              · exact absurd w z.2
            · have := h2 c c1 (by omega)
              refine ⟨this.1.cong2 fun x hx => ?_, this.2⟩
              exact j2 46 c x (by omega)
          · have := hcn.2 ⟨k, hkb, fun w => q ?_⟩
            · omega
            · exact w.symm
      refine b_109_19 ⟨fun q => absurd q (by omega), fun _ => ⟨fun q => absurd q (by decide), fun _ => ?_⟩⟩
      exact (inner 3 0 (by omega) σ1 hF hU).2 hc (fun c h1 h2 => by omega)
  have zero : ∀ (m k : Nat), k + m = 3 → ∀ σ1, Fm Cps σ σ1 → (∀ c : Int, 0 ≤ c → c < k → σ1 4 c 6 = 0) → G (d + 4) PP 109 2 [vr 2 0, vi (k : Int), vu, vu, vu, vu] [] σ1 := by
    intro m
    induction m with
    | zero =>
      intro k hk σ1 hF h0
      refine b_109_2 ⟨fun _ => ?_, fun q => absurd q (by omega)⟩
      have hU : PsUp T (psA σ1) := by
        have z : ∀ b, isB b → psA σ1 b = 0 := fun b hb => h0 b hb.1 (by have := hb.2; omega)
        exact ⟨fun b hb => Or.inl (z b hb), fun b hb e => by have := z b hb; omega, fun q _ _ b hb e => by have := z b hb; omega⟩
      exact round 4 0 (by omega) σ1 hF hU (cn3_le hU).1
    | succ m ih =>
      intro k hk σ1 hF h0
      have i1 := ih (k + 1) (by omega)
      rw [nat1] at i1
      refine b_109_2 ⟨fun q => absurd q (by omega), fun _ => ⟨by omega, Or.inl rfl, fun σ2 e2 => ⟨irI (by omega) (by omega), i1 σ2 (by rw [e2]; exact hF.up (Or.inr ⟨rfl, rfl⟩)) fun c c1 c2 => ?_⟩⟩⟩
      by_cases q : c = k
      · rw [e2, up_eq ⟨rfl, q, rfl⟩]
      · rw [e2, up_ne (by omega)]; exact h0 c c1 (by omega)
  have : Ok (d + 5) 109 [vr 2 0] σ PP := G_ok rfl (b_109_0 (zero 3 0 (by omega) σ (Fm.rf σ) (fun c h1 h2 => by omega)))
  obtain ⟨v, σ', h1, rfl, h2, h3, h4⟩ := this
  exact ⟨σ', h1, h2, h3, h4⟩
/-- findNumber -/
theorem c_findNumber (hT : TOKA T) (hb : isB b) {ps : Int → Int} (hL : EqL (lbA b σ) (EdA T b ps)) {k : Nat} (hk : bxA T b k) (hN : NuTo T b ps (fun p => σ 47 b p) (σ 4 b 8) k) (hnb : ∀ q, q < k → (σ 47 b q = -6 ↔ ¬ bxA T b q)) (how : 0 ≤ σ 4 b 8 ∧ σ 4 b 8 ≤ 100) :
    ∃ x σ', Rn (d + 2) 94 [vr 4 b, vi (k : Int)] σ (vi x) σ' ∧ Fm (fun t i j => t = 4 ∧ i = b ∧ j = 8) σ σ' ∧ ((reA T b ps k 40 ∧ x = 0 ∧ σ' 4 b 8 = σ 4 b 8) ∨ (¬ reA T b ps k 40 ∧ reA T b ps k 41 ∧ x = 1 ∧ σ' 4 b 8 = σ 4 b 8) ∨
      (¬ reA T b ps k 40 ∧ ¬ reA T b ps k 41 ∧ (∃ q, q < k ∧ bxA T b q ∧ reA T b ps q k ∧ x = σ 47 b q) ∧ σ' 4 b 8 = σ 4 b 8) ∨
      (¬ reA T b ps k 40 ∧ ¬ reA T b ps k 41 ∧ (∀ q, q < k → bxA T b q → ¬ reA T b ps q k) ∧ x = 2 + σ 4 b 8 ∧ σ' 4 b 8 = σ 4 b 8 + 1)) := by
  have hn := (hT b hb).1
  have hkn := hk.1
  have el : ∀ x : Nat, x < 42 → rg 42 (σ 46 b) (x : Int) = lbA b σ x := fun x hx => rgN (by omega)
  have e40 : rg 42 (σ 46 b) 40 = lbA b σ 40 := rg_in (by decide)
  have e41 : rg 42 (σ 46 b) 41 = lbA b σ 41 := rg_in (by decide)
  have hre : ∀ x y : Nat, x < 42 → y < 42 → (lbA b σ x = lbA b σ y ↔ reA T b ps x y) := hL
  let PP : AV → SS → Prop := fun v σ' => ∃ x, v = vi x ∧ Fm (fun t i j => t = 4 ∧ i = b ∧ j = 8) σ σ' ∧ ((reA T b ps k 40 ∧ x = 0 ∧ σ' 4 b 8 = σ 4 b 8) ∨ (¬ reA T b ps k 40 ∧ reA T b ps k 41 ∧ x = 1 ∧ σ' 4 b 8 = σ 4 b 8) ∨
      (¬ reA T b ps k 40 ∧ ¬ reA T b ps k 41 ∧ (∃ q, q < k ∧ bxA T b q ∧ reA T b ps q k ∧ x = σ 47 b q) ∧ σ' 4 b 8 = σ 4 b 8) ∨
      (¬ reA T b ps k 40 ∧ ¬ reA T b ps k 41 ∧ (∀ q, q < k → bxA T b q → ¬ reA T b ps q k) ∧ x = 2 + σ 4 b 8 ∧ σ' 4 b 8 = σ 4 b 8 + 1))
  have : Ok (d + 2) 94 [vr 4 b, vi (k : Int)] σ PP := by
    refine G_ok rfl (b_94_0 ?_)
    rw [el k (by omega), e40, e41]
    refine ⟨fun h0 => ⟨fun h1 => ?_, fun h1 => ?_⟩, fun h0 => ?_⟩
    · have n0 : ¬ reA T b ps k 40 := fun w => h0 ((hre k 40 (by omega) (by omega)).mpr w)
      have n1 : ¬ reA T b ps k 41 := fun w => h1 ((hre k 41 (by omega) (by omega)).mpr w)
      have loop : ∀ (m j : Nat), j + m = k → (∀ q, q < j → bxA T b q → ¬ reA T b ps q k) → G (d + 1) PP 94 23 [vr 4 b, vi (k : Int), vi (lbA b σ k), vi (j : Int)] [] σ := by
        intro m
        induction m with
        | zero =>
          intro j hj hno
          obtain rfl : j = k := by omega
          refine b_94_23 ⟨fun _ => ⟨irI (by omega) (by omega), fun σ1 e1 => ?_⟩, fun q => absurd q (by omega)⟩
          have e8 : σ1 4 b 8 = σ 4 b 8 + 1 := by rw [e1]; exact up_eq ⟨rfl, rfl, rfl⟩
          rw [e8]
          refine ⟨irI (by omega) (by omega), irI (by omega) (by omega), _, rfl, by rw [e1]; exact (Fm.rf σ).up ⟨rfl, rfl, rfl⟩, Or.inr (Or.inr (Or.inr ⟨n0, n1, hno, by omega, e8⟩))⟩
        | succ m ih =>
          intro j hj hno
          have i1 := ih (j + 1) (by omega)
          rw [nat1] at i1
          have e47 : rg 40 (σ 47 b) (j : Int) = σ 47 b j := rgN (by omega)
          have hnj := hnb j (by omega)
          have hir : ir ((j : Int) + 1) := irI (by omega) (by omega)
          refine b_94_23 ⟨fun q => absurd q (by omega), fun _ => ?_⟩
          rw [e47, el j (by omega)]
          refine ⟨fun q => ⟨hir, i1 fun x h1 h2 => ?_⟩, fun q => ⟨fun w => ⟨hir, i1 fun x h1 h2 => ?_⟩, fun w => ?_⟩⟩
          · rcases Nat.eq_or_lt_of_le (Nat.le_of_lt_succ h1) with z | z
            · subst z; exact absurd h2 (hnj.mp q)
            · exact hno x z h2
          · rcases Nat.eq_or_lt_of_le (Nat.le_of_lt_succ h1) with z | z
            · subst z; exact fun u => w ((hre _ k (by omega) (by omega)).mpr u)
            · exact hno x z h2
          · refine ⟨_, rfl, Fm.rf σ, Or.inr (Or.inr (Or.inl ⟨n0, n1, ⟨j, by omega, ?_, (hre j k (by omega) (by omega)).mp w, rfl⟩, rfl⟩))⟩
            rcases em (bxA T b j) with z | z
            · exact z
            · exact absurd (hnj.mpr z) q
      exact loop k 0 (by omega) (fun q h1 => by omega)
    · exact ⟨_, rfl, Fm.rf σ, Or.inr (Or.inl ⟨fun w => h0 ((hre k 40 (by omega) (by omega)).mpr w), (hre k 41 (by omega) (by omega)).mp h1, rfl, rfl⟩)⟩
    · exact ⟨_, rfl, Fm.rf σ, Or.inl ⟨(hre k 40 (by omega) (by omega)).mp h0, rfl, rfl⟩⟩
  obtain ⟨v, σ', h1, x, rfl, h2, h3⟩ := this
  exact ⟨x, σ', h1, h2, h3⟩
def Cnu (b : Int) : Nat → Int → Int → Prop := fun t i j => i = b ∧ (t = 47 ∨ t = 48 ∨ (t = 4 ∧ j = 8))
theorem NuTo_box {T : TP} {b : Int} {ps : Int → Int} {nu : Nat → Int} {ow : Int} {k : Nat} (h : NuTo T b ps nu ow k) (hk : k ≤ tN T b) : 0 ≤ ow ∧ ow ≤ k ∧ ∀ q, q < k → (nu q = -6 ↔ ¬ bxA T b q) := by
  have key : ∀ j, ∀ (c : Nat → Int), c 0 = 0 → (∀ p, p < j →
    (¬ bxA T b p → nu p = -6 ∧ c (p + 1) = c p) ∧
    (bxA T b p → reA T b ps p 40 → nu p = 0 ∧ c (p + 1) = c p) ∧
    (bxA T b p → ¬ reA T b ps p 40 → reA T b ps p 41 → nu p = 1 ∧ c (p + 1) = c p) ∧
    (bxA T b p → ¬ reA T b ps p 40 → ¬ reA T b ps p 41 → (∀ q, q < p → bxA T b q → reA T b ps q p → nu p = nu q ∧ c (p + 1) = c p) ∧ ((∀ q, q < p → bxA T b q → ¬ reA T b ps q p) → nu p = 2 + c p ∧ c (p + 1) = c p + 1))) → 0 ≤ c j ∧ c j ≤ j ∧ ∀ q, q < j → (nu q = -6 ↔ ¬ bxA T b q) ∧ (bxA T b q → 0 ≤ nu q) := by
    intro j
    induction j with
    | zero => intro c c0 _; exact ⟨by omega, by omega, fun q hq => by omega⟩
    | succ j ih =>
      intro c c0 c2
      obtain ⟨i1, i2, i3⟩ := ih c c0 fun p hp => c2 p (by omega)
      obtain ⟨a1, a2, a3, a4⟩ := c2 j (by omega)
      have fin : (c (j + 1) = c j ∨ c (j + 1) = c j + 1) → ((nu j = -6 ∧ ¬ bxA T b j) ∨ (0 ≤ nu j ∧ bxA T b j)) → 0 ≤ c (j + 1) ∧ c (j + 1) ≤ ((j + 1 : Nat) : Int) ∧ ∀ q, q < j + 1 → (nu q = -6 ↔ ¬ bxA T b q) ∧ (bxA T b q → 0 ≤ nu q) := by
        intro h1 h2
        refine ⟨by omega, by omega, fun q hq => ?_⟩
        rcases Nat.eq_or_lt_of_le (Nat.le_of_lt_succ hq) with w | w
        · subst w
          rcases h2 with h2 | h2
          · exact ⟨⟨fun _ => h2.2, fun _ => h2.1⟩, fun z => absurd z h2.2⟩
          · exact ⟨⟨fun z => by omega, fun z => absurd h2.2 z⟩, fun _ => h2.1⟩
        · exact i3 q w
      rcases em (bxA T b j) with x | x
      · rcases em (reA T b ps j 40) with y | y
        · obtain ⟨z1, z2⟩ := a2 x y
          exact fin (Or.inl z2) (Or.inr ⟨by omega, x⟩)
        · rcases em (reA T b ps j 41) with z | z
          · obtain ⟨z1, z2⟩ := a3 x y z
            exact fin (Or.inl z2) (Or.inr ⟨by omega, x⟩)
          · rcases em (∃ r, r < j ∧ bxA T b r ∧ reA T b ps r j) with ⟨r, r1, r2, r3⟩ | w
            · obtain ⟨z1, z2⟩ := (a4 x y z).1 r r1 r2 r3
              have := (i3 r r1).2 r2
              exact fin (Or.inl z2) (Or.inr ⟨by omega, x⟩)
            · obtain ⟨z1, z2⟩ := (a4 x y z).2 fun r r1 r2 r3 => w ⟨r, r1, r2, r3⟩
              exact fin (Or.inr z2) (Or.inr ⟨by omega, x⟩)
      · obtain ⟨z1, z2⟩ := a1 x
        exact fin (Or.inl z2) (Or.inl ⟨z1, x⟩)
  obtain ⟨c, c0, c1, c2⟩ := h
  obtain ⟨k1, k2, k3⟩ := key k c c0 c2
  exact ⟨by omega, by omega, fun q hq => (k3 q hq).1⟩
/-- numberParts -/
theorem c_number (hT : TOKA T) (hW : welA T) (hb : isB b) (hC : CW T σ) {ps : Int → Int} (hL : EqL (lbA b σ) (EdA T b ps)) :
    ∃ σ', Rn (d + 4) 93 [vr 4 b] σ vu σ' ∧ Fm (Cnu b) σ σ' ∧ NuOK T b ps (fun p => σ' 47 b p) (σ' 4 b 8) ∧ ∀ p : Nat, p < tN T b → σ' 48 b p = if nmA (tS T b) p = false ∧ 1 ≤ inn (kos (tS T b p)) then σ' 47 b (c0A (tS T b) p) else -6 := by
  have hn := (hT b hb).1
  have hg := (hW b hb).1
  have hCk : ∀ σ1, Fm (Cnu b) σ σ1 → CW T σ1 := fun σ1 h => hC.keep h (fun t i j q => by unfold Cnu at q; omega)
  have hLk : ∀ σ1, Fm (Cnu b) σ σ1 → EqL (lbA b σ1) (EdA T b ps) := fun σ1 h => hL.cong2 fun x hx => h _ _ _ (by unfold Cnu; omega)
  let PP : AV → SS → Prop := fun v σ' => v = vu ∧ Fm (Cnu b) σ σ' ∧ NuOK T b ps (fun p => σ' 47 b p) (σ' 4 b 8) ∧ ∀ p : Nat, p < tN T b → σ' 48 b p = if nmA (tS T b) p = false ∧ 1 ≤ inn (kos (tS T b p)) then σ' 47 b (c0A (tS T b) p) else -6
  have loop2 : ∀ (m k : Nat) (σ1 : SS), k + m = tN T b → Fm (Cnu b) σ σ1 → NuOK T b ps (fun p => σ1 47 b p) (σ1 4 b 8) → (∀ p : Nat, p < k → σ1 48 b p = if nmA (tS T b) p = false ∧ 1 ≤ inn (kos (tS T b p)) then σ1 47 b (c0A (tS T b) p) else -6) → G (d + 3) PP 93 36 [vr 4 b, vi (k : Int), vu] [] σ1 := by
    intro m
    induction m with
    | zero =>
      intro k σ1 hk hF hN h48
      have e6 := ((hCk σ1 hF).1 b hb).1
      exact b_93_36 ⟨fun _ => ⟨rfl, hF, hN, fun p hp => h48 p (by omega)⟩, fun q => absurd q (by omega)⟩
    | succ m ih =>
      intro k σ1 hk hF hN h48
      have hC1 := hCk σ1 hF
      have e6 := (hC1.1 b hb).1
      have hkn : k < tN T b := by omega
      have i1 := ih (k + 1)
      rw [nat1] at i1
      have fin : ∀ x σ2, x = (if nmA (tS T b) k = false ∧ 1 ≤ inn (kos (tS T b k)) then σ1 47 b (c0A (tS T b) k) else -6) → σ2 = us 40 σ1 48 b k x → ir ((k : Int) + 1) ∧ G (d + 3) PP 93 36 [vr 4 b, vi ((k : Int) + 1), vu] [] σ2 := by
        intro x σ2 hx e2
        rw [us_in ⟨by omega, by omega⟩] at e2
        have e47 : ∀ j : Int, σ2 47 b j = σ1 47 b j := fun j => by rw [e2, up_ne (by omega)]
        have e8 : σ2 4 b 8 = σ1 4 b 8 := by rw [e2, up_ne (by omega)]
        refine ⟨irI (by omega) (by omega), i1 σ2 (by omega) (by rw [e2]; exact hF.up (by unfold Cnu; omega)) ?_ fun p hp => ?_⟩
        · rw [e8, show (fun p : Nat => σ2 47 b p) = (fun p : Nat => σ1 47 b p) from funext fun p => e47 p]; exact hN
        · rw [e47]
          by_cases q : p = k
          · subst q; rw [e2, up_eq ⟨rfl, rfl, rfl⟩]; exact hx
          · rw [e2, up_ne (by omega)]; exact h48 p (by omega)
      refine b_93_36 ⟨fun q => absurd q (by omega), fun _ => ?_⟩
      rw [c_39 hT hb (hC1.2 b hb).1 hkn]
      cases hm : nmA (tS T b) k
      · rw [show (if false = true then (0 : Int) else tS T b k) = tS T b k from if_neg (by decide), tin_kos, if_neg (by have := kos_ge hg hkn hm; omega)]
        refine ⟨fun q => ⟨fun _ σ2 e2 => fin _ σ2 (by rw [if_neg (by omega)]) e2, fun w => absurd rfl w⟩, fun q => ⟨fun w => absurd w (by decide), fun _ => ⟨⟨irI (by omega) (by omega), irI (by omega) (by omega)⟩, fun σ2 e2 => fin _ σ2 ?_ e2⟩⟩⟩
        have e := c_in hT hb (hC1.2 b hb).1 hkn hm 0 (by omega)
        rw [show ((0 : Nat) : Int) = 0 from rfl] at e
        have k1 := kid1 hg hkn hm (by omega)
        rw [e, if_pos ⟨hm, by omega⟩]
        exact rgN (by show ((c0A (tS T b) k : Nat) : Int) < 40; omega)
      · rw [show (if true = true then (0 : Int) else tS T b k) = 0 from if_pos rfl, show tin 0 = -1 by decide]
        exact ⟨fun _ => ⟨fun _ σ2 e2 => fin _ σ2 (by rw [if_neg (by rw [hm]; simp)]) e2, fun w => absurd rfl w⟩, fun w => absurd w (by decide)⟩
  have loop1 : ∀ (m k : Nat) (σ1 : SS), k + m = tN T b → Fm (Cnu b) σ σ1 → NuTo T b ps (fun p => σ1 47 b p) (σ1 4 b 8) k → G (d + 3) PP 93 5 [vr 4 b, vi (k : Int), vu] [] σ1 := by
    intro m
    induction m with
    | zero =>
      intro k σ1 hk hF hN
      have e6 := ((hCk σ1 hF).1 b hb).1
      obtain rfl : k = tN T b := by omega
      exact b_93_5 ⟨fun _ => loop2 (tN T b) 0 σ1 (by omega) hF hN (fun p hp => by omega), fun q => absurd q (by omega)⟩
    | succ m ih =>
      intro k σ1 hk hF hN
      have hC1 := hCk σ1 hF
      have e6 := (hC1.1 b hb).1
      have hkn : k < tN T b := by omega
      have i1 := ih (k + 1)
      rw [nat1] at i1
      have h38 := c_38k hT hb hC1 hkn
      have hbox := NuTo_box hN (by omega)
      refine b_93_5 ⟨fun q => absurd q (by omega), fun _ => ⟨fun h1 => ⟨fun _ σ2 e2 => ?_, fun w => absurd rfl w⟩, fun h1 => ⟨fun w => absurd w (by decide), fun _ => ?_⟩⟩⟩
      · rw [us_in ⟨by omega, by omega⟩] at e2
        refine ⟨irI (by omega) (by omega), i1 σ2 (by omega) (by rw [e2]; exact hF.up (by unfold Cnu; omega)) (NuTo_step hN (fun j hj => ?_) (Or.inl ⟨fun w => h1 (h38.mpr w), ?_, ?_⟩))⟩
        · show σ2 47 b j = _; rw [e2, up_ne (by omega)]
        · show σ2 47 b k = _; rw [e2, up_eq ⟨rfl, rfl, rfl⟩]
        · rw [e2, up_ne (by omega)]
      · have hx := h38.mp h1
        obtain ⟨x, σ2, r1, r2, r3⟩ := c_findNumber (d := d + 1) hT hb (hLk σ1 hF) hx hN hbox.2.2 ⟨hbox.1, by have := hbox.2.1; omega⟩
        refine ⟨x, σ2, r1, fun σ3 e3 => ?_⟩
        rw [us_in ⟨by omega, by omega⟩] at e3
        have e8 : σ3 4 b 8 = σ2 4 b 8 := by rw [e3, up_ne (by omega)]
        have ek : σ3 47 b k = x := by rw [e3, up_eq ⟨rfl, rfl, rfl⟩]
        have ej : ∀ j : Nat, j < k → σ3 47 b j = σ1 47 b j := fun j hj => by rw [e3, up_ne (by omega)]; exact r2 _ _ _ (by omega)
        have hF3 : Fm (Cnu b) σ σ3 := by rw [e3]; exact (hF.tr (r2.mono fun t i j q => by unfold Cnu; omega)).up (by unfold Cnu; omega)
        refine ⟨irI (by omega) (by omega), i1 σ3 (by omega) hF3 (NuTo_step hN ej ?_)⟩
        rcases r3 with r3 | r3 | r3 | r3
        · exact Or.inr (Or.inl ⟨hx, r3.1, by show σ3 47 b k = 0; rw [ek]; exact r3.2.1, by rw [e8]; exact r3.2.2⟩)
        · exact Or.inr (Or.inr (Or.inl ⟨hx, r3.1, r3.2.1, by show σ3 47 b k = 1; rw [ek]; exact r3.2.2.1, by rw [e8]; exact r3.2.2.2⟩))
        · obtain ⟨q, q1, q2, q3, q4⟩ := r3.2.2.1
          exact Or.inr (Or.inr (Or.inr (Or.inl ⟨hx, r3.1, r3.2.1, ⟨q, q1, q2, q3, by show σ3 47 b k = _; rw [ek]; exact q4⟩, by rw [e8]; exact r3.2.2.2⟩)))
        · exact Or.inr (Or.inr (Or.inr (Or.inr ⟨hx, r3.1, r3.2.1, r3.2.2.1, by show σ3 47 b k = _; rw [ek]; exact r3.2.2.2.1, by rw [e8]; exact r3.2.2.2.2⟩)))
  have : Ok (d + 4) 93 [vr 4 b] σ PP := G_ok rfl (b_93_0 fun σ1 e1 => loop1 (tN T b) 0 σ1 (by omega) (by rw [e1]; exact (Fm.rf σ).up (by unfold Cnu; omega)) ⟨fun _ => 0, rfl, by rw [e1, up_eq ⟨rfl, rfl, rfl⟩], fun p hp => by omega⟩)
  obtain ⟨v, σ', h1, rfl, h2, h3, h4⟩ := this
  exact ⟨σ', h1, h2, h3, h4⟩
end CNUM
