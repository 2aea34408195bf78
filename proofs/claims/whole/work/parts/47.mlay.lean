section MLAY
variable {T : TP} {b : Int} {d : Nat} {σ : SS}
def Cnm (b : Int) : Nat → Int → Int → Prop := fun t i j => (t = 74 ∧ 40 * b ≤ j ∧ j < 40 * b + 40) ∨ (t = 76 ∧ j = b)
theorem NuTo_cong {ps : Int → Int} {nu nu' : Nat → Int} {ow : Int} {k : Nat} (h : NuTo T b ps nu ow k) (hc : ∀ j, j < k → nu' j = nu j) : NuTo T b ps nu' ow k := by
  obtain ⟨c, c0, c1, c2⟩ := h
  refine ⟨c, c0, c1, fun p hp => ?_⟩
  rw [hc p hp]
  obtain ⟨a1, a2, a3, a4⟩ := c2 p hp
  refine ⟨a1, a2, a3, fun x y z => ⟨fun q q1 q2 q3 => ?_, (a4 x y z).2⟩⟩
  rw [hc q (by omega)]
  exact (a4 x y z).1 q q1 q2 q3
/-- numberAll -/
theorem m_number (hT : TOKA T) (hW : welA T) (hb : isB b) (hM : MW T σ) {ps : Int → Int} {ρ h : Nat → Nat} (hf : FoA b σ ρ h) (hL : EqL (rl ρ) (EdA T b ps)) :
    ∃ σ', Rn (d + 3) 63 [vr 62 0, vi b] σ vu σ' ∧ Fm (Cnm b) σ σ' ∧ NuOK T b ps (nuM σ' b) (σ' 76 0 b) := by
  have hn := (hT b hb).1
  have hg := (hW b hb).1
  have hb' := hb
  unfold isB at hb'
  let PP : AV → SS → Prop := fun v σ' => v = vu ∧ Fm (Cnm b) σ σ' ∧ NuOK T b ps (nuM σ' b) (σ' 76 0 b)
  have hMk : ∀ σ1, Fm (Cnm b) σ σ1 → MW T σ1 ∧ FoA b σ1 ρ h := fun σ1 hF => ⟨hM.keep hT hF (fun t i j q => by unfold Cnm at q; omega), hf.keep hF (fun t i j q w => by unfold Cnm at q; unfold Cst at w; omega)⟩
  have hre : ∀ x y : Nat, x < 42 → y < 42 → (ρ x = ρ y ↔ reA T b ps x y) := fun x y hx hy => by
    have := hL x y hx hy
    unfold rl at this
    constructor
    · intro q; exact this.mp (by rw [q])
    · intro q; have := this.mpr q; omega
  have loop : ∀ (m k : Nat) (σ1 : SS) (c : Int), k + m = 40 → Fm (Cnm b) σ σ1 → NuTo T b ps (nuM σ1 b) (c - 2) (min k (tN T b)) → G (d + 2) PP 63 4 [vr 62 0, vi b, vi c, vi (k : Int), vu, vu, vu] [] σ1 := by
    intro m
    induction m with
    | zero =>
      intro k σ1 c hk hF hN
      have hfa := NuTo_facts hN
      rw [Nat.min_eq_right (by omega)] at hN hfa
      refine b_63x_4 ⟨fun _ => ⟨irI (by omega) (by omega), hb, fun σ2 e2 => ⟨rfl, by rw [e2]; exact hF.up (by unfold Cnm; omega), ?_⟩⟩, fun q => absurd q (by omega)⟩
      have e76 : σ2 76 0 b = c - 2 := by rw [e2, up_eq ⟨rfl, rfl, rfl⟩]
      rw [e76]
      exact NuTo_cong hN fun j hj => by show σ2 74 0 _ = _; rw [e2, up_ne (by omega)]; rfl
    | succ m ih =>
      intro k σ1 c hk hF hN
      have hfa := NuTo_facts hN
      have hat : (0 : Int) ≤ 40 * b + k ∧ 40 * b + (k : Int) < 120 := by omega
      have i0 : ir (40 * b) := irI (by omega) (by omega)
      have i1 : ir (40 * b + (k : Int)) := irI (by omega) (by omega)
      -- on to the next place
      have next : ∀ σ2 c2, Fm (Cnm b) σ σ2 → NuTo T b ps (nuM σ2 b) (c2 - 2) (min (k + 1) (tN T b)) → G (d + 2) PP 63 150 [vr 62 0, vi b, vi c2, vi (k : Int), vu, vu, vu] [] σ2 := fun σ2 c2 g1 g2 => by
        have := ih (k + 1) σ2 c2 (by omega) g1 g2
        rw [nat1] at this
        exact b_63x_150 ⟨irI (by omega) (by omega), this⟩
      refine b_63x_4 ⟨fun q => absurd q (by omega), fun _ => ⟨i0, i1, hat, fun σ2 e2 => ⟨hb, ?_⟩⟩⟩
      have hF2 : Fm (Cnm b) σ σ2 := by rw [e2]; exact hF.up (by unfold Cnm; omega)
      have hup : Fm (fun t i j => t = 74 ∧ j = 40 * b + (k : Int)) σ1 σ2 := by rw [e2]; exact (Fm.rf σ1).up ⟨rfl, rfl⟩
      have e74 : σ2 74 0 (40 * b + (k : Int)) = -6 := by rw [e2, up_eq ⟨rfl, rfl, rfl⟩]
      obtain ⟨hM2, hf2⟩ := hMk σ2 hF2
      have e65 := (hM2.1 b hb).1
      have hother : ∀ σ3, Fm (fun t i j => t = 74 ∧ j = 40 * b + (k : Int)) σ1 σ3 → ∀ j : Nat, j ≠ k → nuM σ3 b j = nuM σ1 b j := fun σ3 g j hj => g _ _ _ (by omega)
      rw [e65]
      refine ⟨fun q => next σ2 c hF2 ?_, fun q => ⟨hat, ?_⟩⟩
      · rw [Nat.min_eq_right (by omega)] at hN ⊢
        exact NuTo_cong hN fun j hj => hother σ2 hup j (by omega)
      have hkn : k < tN T b := by omega
      rw [Nat.min_eq_left (by omega)] at hN hfa
      have nx : ∀ σ3 c3, Fm (fun t i j => t = 74 ∧ j = 40 * b + (k : Int)) σ1 σ3 → ((¬ bxA T b k ∧ nuM σ3 b k = -6 ∧ c3 = c) ∨ (bxA T b k ∧ reA T b ps k 40 ∧ nuM σ3 b k = 0 ∧ c3 = c) ∨ (bxA T b k ∧ ¬ reA T b ps k 40 ∧ reA T b ps k 41 ∧ nuM σ3 b k = 1 ∧ c3 = c) ∨
          (bxA T b k ∧ ¬ reA T b ps k 40 ∧ ¬ reA T b ps k 41 ∧ (∃ q, q < k ∧ bxA T b q ∧ reA T b ps q k ∧ nuM σ3 b k = nuM σ1 b q) ∧ c3 = c) ∨
          (bxA T b k ∧ ¬ reA T b ps k 40 ∧ ¬ reA T b ps k 41 ∧ (∀ q, q < k → bxA T b q → ¬ reA T b ps q k) ∧ nuM σ3 b k = c ∧ c3 = c + 1)) → G (d + 2) PP 63 150 [vr 62 0, vi b, vi c3, vi (k : Int), vu, vu, vu] [] σ3 := fun σ3 c3 g1 g2 => by
        refine next σ3 c3 (hF.tr (g1.mono fun t i j w => by unfold Cnm; omega)) ?_
        rw [Nat.min_eq_left (by omega)]
        refine NuTo_step hN (fun j hj => hother σ3 g1 j (by omega)) ?_
        rcases g2 with g | g | g | g | g
        · exact Or.inl ⟨g.1, g.2.1, by omega⟩
        · exact Or.inr (Or.inl ⟨g.1, g.2.1, g.2.2.1, by omega⟩)
        · exact Or.inr (Or.inr (Or.inl ⟨g.1, g.2.1, g.2.2.1, g.2.2.2.1, by omega⟩))
        · exact Or.inr (Or.inr (Or.inr (Or.inl ⟨g.1, g.2.1, g.2.2.1, g.2.2.2.1, by omega⟩)))
        · exact Or.inr (Or.inr (Or.inr (Or.inr ⟨g.1, g.2.1, g.2.2.1, g.2.2.2.1, by omega, by omega⟩)))
      have e67 := ((hM2.2 b hb) k hkn).1
      rw [e67]
      refine ⟨fun q => nx σ2 c hup (Or.inl ⟨fun w => ?_, e74, rfl⟩), fun q => ?_⟩
      · have := kos_ge hg hkn w.2.1
        unfold whA at q; rw [w.2.1] at q
        have q' : kos (tS T b k) < 0 := q
        omega
      have hm : nmA (tS T b) k = false := by
        cases h : nmA (tS T b) k
        · rfl
        · unfold whA at q; rw [if_pos h] at q; omega
      refine ⟨_, σ2, m_kindAt (d := d) hT hb hM2.1 hg (hM2.2 b hb) hkn hm, fun w => nx σ2 c hup (Or.inl ⟨fun z => w z.2.2, e74, rfl⟩), fun hkd => ?_⟩
      have hbx : bxA T b k := ⟨hkn, hm, hkd⟩
      have j0 : ir (42 * b) := irI (by omega) (by omega)
      have j1 : ir (42 * b + (k : Int)) := irI (by omega) (by omega)
      have j40 : ir (42 * b + 40) := irI (by omega) (by omega)
      have j41 : ir (42 * b + 41) := irI (by omega) (by omega)
      have rt : ∀ (σ3 : SS), Fm (fun t i j => t = 74 ∧ j = 40 * b + (k : Int)) σ1 σ3 → ∀ x : Nat, x < 42 → Rn (d + 2) 23 [vr 62 0, vi (42 * b + x)] σ3 (vi (42 * b + ρ x)) σ3 := fun σ3 g x hx => m_root (d := d + 1) hb (hMk σ3 (hF.tr (g.mono fun t i j w => by unfold Cnm; omega))).2 hx
      refine ⟨j0, j1, _, σ2, rt σ2 hup k (by omega), hb, ?_⟩
      rw [(hM2.1 b hb).2.1]
      -- not with P
      have notP : ¬ reA T b ps k 40 → G (d + 2) PP 63 64 [vr 62 0, vi b, vi c, vi (k : Int), vi (40 * b + (k : Int)), vi (42 * b + (ρ k : Int)), vu] [] σ2 := by
        intro n0
        have r41 := rt σ2 hup 41 (by omega)
        rw [show ((41 : Nat) : Int) = 41 from rfl] at r41
        refine b_63x_64 ⟨j0, j41, _, σ2, r41, fun w => ?_, fun w => ⟨hat, fun σ3 e3 => nx σ3 c (by rw [e3]; exact hup.up ⟨rfl, rfl⟩) (Or.inr (Or.inr (Or.inl ⟨hbx, n0, (hre k 41 (by omega) (by omega)).mp (by omega), by show σ3 74 0 _ = 1; rw [e3, up_eq ⟨rfl, rfl, rfl⟩], rfl⟩)))⟩⟩
        have n1 : ¬ reA T b ps k 41 := fun z => w (by rw [(hre k 41 (by omega) (by omega)).mpr z])
        -- an own region
        have own : ∀ (m2 j : Nat) (σ3 : SS), j + m2 = k → Fm (fun t i j => t = 74 ∧ j = 40 * b + (k : Int)) σ1 σ3 → ((σ3 74 0 (40 * b + (k : Int)) = -6 ∧ ∀ q, q < j → bxA T b q → ¬ reA T b ps q k) ∨ (∃ q, q < k ∧ bxA T b q ∧ reA T b ps q k ∧ σ3 74 0 (40 * b + (k : Int)) = nuM σ1 b q)) → G (d + 2) PP 63 81 [vr 62 0, vi b, vi c, vi (k : Int), vi (40 * b + (k : Int)), vi (42 * b + (ρ k : Int)), vi (j : Int)] [] σ3 := by
          intro m2
          induction m2 with
          | zero =>
            intro j σ3 hj g1 g2
            obtain rfl : j = k := by omega
            have fin : ∀ x, x = σ3 74 0 (40 * b + (j : Int)) → 0 ≤ x → (∃ q, q < j ∧ bxA T b q ∧ reA T b ps q j ∧ x = nuM σ1 b q) → G (d + 2) PP 63 131 [vr 62 0, vi b, vu, vi (j : Int), vi (40 * b + (j : Int)), vu, vu] [vi 0, vi c] σ3 := by
              intro x hx h0 ⟨q, q1, q2, q3, q4⟩
              refine b_63x_131 ⟨irI (by omega) (by omega), hat, fun _ => ⟨hat, b_63x_149 ⟨hat, fun σ4 e4 => ?_⟩⟩, fun u => absurd u (by omega)⟩
              rw [show c + 0 = c by omega]
              exact nx σ4 c (by rw [e4]; exact g1.up ⟨rfl, rfl⟩) (Or.inr (Or.inr (Or.inr (Or.inl ⟨hbx, n0, n1, ⟨q, q1, q2, q3, by show σ4 74 0 _ = _; rw [e4, up_eq ⟨rfl, rfl, rfl⟩, ← hx, q4]⟩, rfl⟩))))
            refine b_63x_81 ⟨fun _ => ⟨hat, fun u => ?_, fun u => ?_⟩, fun u => absurd u (by omega)⟩
            · rcases g2 with g2 | ⟨q, q1, q2, q3, q4⟩
              · omega
              · exact fin _ rfl u ⟨q, q1, q2, q3, q4⟩
            · rcases g2 with ⟨g2, g3⟩ | ⟨q, q1, q2, q3, q4⟩
              · refine b_63x_131 ⟨irI (by omega) (by omega), hat, fun z => absurd z (by omega), fun _ => ⟨irI (by omega) (by omega), b_63x_149 ⟨hat, fun σ4 e4 => ?_⟩⟩⟩
                exact nx σ4 (c + 1) (by rw [e4]; exact g1.up ⟨rfl, rfl⟩) (Or.inr (Or.inr (Or.inr (Or.inr ⟨hbx, n0, n1, g3, by show σ4 74 0 _ = c; rw [e4, up_eq ⟨rfl, rfl, rfl⟩]; omega, rfl⟩))))
              · exfalso
                rcases hfa.2.2.1 q q1 with z | z
                · exact z.2 q2
                · omega
          | succ m2 ih2 =>
            intro j σ3 hj g1 g2
            have i2 := ih2 (j + 1)
            rw [nat1] at i2
            have enj : σ3 74 0 (40 * b + (j : Int)) = nuM σ1 b j := hother σ3 g1 j (by omega)
            have hj0 : ir (40 * b + (j : Int)) := irI (by omega) (by omega)
            have hj1 : ir (42 * b + (j : Int)) := irI (by omega) (by omega)
            have put : ∀ x, ((x = -6 ∧ ∀ q, q < j + 1 → bxA T b q → ¬ reA T b ps q k) ∨ (∃ q, q < k ∧ bxA T b q ∧ reA T b ps q k ∧ x = nuM σ1 b q)) → G (d + 2) PP 63 119 [vr 62 0, vi b, vi c, vi (k : Int), vi (40 * b + (k : Int)), vi (42 * b + (ρ k : Int)), vi (j : Int)] [vi x, vi (40 * b + (k : Int)), vr 74 0] σ3 := fun x hx => by
              refine b_63x_119 ⟨hat, fun σ4 e4 => ⟨irI (by omega) (by omega), i2 σ4 (by omega) (by rw [e4]; exact g1.up ⟨rfl, rfl⟩) ?_⟩⟩
              have e : σ4 74 0 (40 * b + (k : Int)) = x := by rw [e4, up_eq ⟨rfl, rfl, rfl⟩]
              rw [e]
              exact hx
            have old : (bxA T b j → ¬ reA T b ps j k) → G (d + 2) PP 63 115 [vr 62 0, vi b, vi c, vi (k : Int), vi (40 * b + (k : Int)), vi (42 * b + (ρ k : Int)), vi (j : Int)] [vi (40 * b + (k : Int)), vr 74 0] σ3 := fun hno => by
              refine b_63x_115 ⟨hat, put _ ?_⟩
              rcases g2 with ⟨g2, g3⟩ | g2
              · refine Or.inl ⟨g2, fun q hq hqb => ?_⟩
                rcases Nat.eq_or_lt_of_le (Nat.le_of_lt_succ hq) with z | z
                · subst z; exact hno hqb
                · exact g3 q z hqb
              · exact Or.inr g2
            refine b_63x_81 ⟨fun u => absurd u (by omega), fun _ => ⟨i0, hj0, by omega, ?_⟩⟩
            rw [enj]
            refine ⟨fun u => old fun hbj hrj => ?_, fun u => ⟨j0, hj1, _, σ3, rt σ3 g1 j (by omega), fun v => old fun hbj hrj => v ?_, fun v => ⟨i0, hj0, by omega, ?_⟩⟩⟩
            · rcases hfa.2.2.1 j (by omega) with z | ⟨z1, z2, z3, z4, z5, z6⟩
              · exact z.2 hbj
              · rcases (show nuM σ1 b j = 0 ∨ nuM σ1 b j = 1 by omega) with y | y
                · exact n0 ((ClA.sy hrj).tr (z4.mp y))
                · exact n1 ((ClA.sy hrj).tr (z5 y).1)
            · rw [(hre j k (by omega) (by omega)).mpr hrj]
            · rw [enj]
              refine put _ (Or.inr ⟨j, by omega, ?_, (hre j k (by omega) (by omega)).mp (by omega), rfl⟩)
              rcases hfa.2.2.1 j (by omega) with z | z
              · omega
              · exact z.2.2.1
        have := own k 0 σ2 (by omega) hup (Or.inl ⟨e74, fun q hq => by omega⟩)
        exact this
      refine ⟨fun w => notP fun z => ?_, fun w => ⟨j0, j40, ?_⟩⟩
      · have := re_P hT hW hb w z; omega
      · have r40 := rt σ2 hup 40 (by omega)
        rw [show ((40 : Nat) : Int) = 40 from rfl] at r40
        refine ⟨_, σ2, r40, fun u => notP fun z => u (by rw [(hre k 40 (by omega) (by omega)).mpr z]), fun u => ⟨hat, fun σ3 e3 => nx σ3 c (by rw [e3]; exact hup.up ⟨rfl, rfl⟩) (Or.inr (Or.inl ⟨hbx, (hre k 40 (by omega) (by omega)).mp (by omega), by show σ3 74 0 _ = 0; rw [e3, up_eq ⟨rfl, rfl, rfl⟩], rfl⟩))⟩⟩
  have : Ok (d + 3) 63 [vr 62 0, vi b] σ PP := G_ok rfl (b_63x_0 (loop 40 0 σ 2 (by omega) (Fm.rf σ) ⟨fun _ => 0, rfl, rfl, fun p hp => by simp at hp⟩))
  obtain ⟨v, σ', h1, rfl, h2, h3⟩ := this
  exact ⟨σ', h1, h2, h3⟩
/-- layHomes -/
theorem m_homes (hT : TOKA T) (hW : welA T) (hb : isB b) (hM : MW T σ) {ps : Int → Int} (hO : NuOK T b ps (nuM σ b) (σ 76 0 b)) :
    ∃ σ', Rn (d + 2) 65 [vr 62 0, vi b] σ vu σ' ∧ Fm (fun t _ j => t = 75 ∧ 44 * b ≤ j ∧ j < 44 * b + 44) σ σ' ∧ ∀ r : Int, 2 ≤ r → r < 2 + σ 76 0 b → ∃ h : Nat, σ' 75 0 (44 * b + r) = 40 * b + h ∧ HmOK T b (nuM σ b) r h := by
  have hn := (hT b hb).1
  have hg := (hW b hb).1
  have hb' := hb
  unfold isB at hb'
  obtain ⟨o1, o2, o3, o4⟩ := NuOK_facts hO
  let C : Nat → Int → Int → Prop := fun t _ j => t = 75 ∧ 44 * b ≤ j ∧ j < 44 * b + 44
  let PP : AV → SS → Prop := fun v σ' => v = vu ∧ Fm C σ σ' ∧ ∀ r : Int, 2 ≤ r → r < 2 + σ 76 0 b → ∃ h : Nat, σ' 75 0 (44 * b + r) = 40 * b + h ∧ HmOK T b (nuM σ b) r h
  have hMk : ∀ σ1, Fm C σ σ1 → MW T σ1 ∧ nuM σ1 b = nuM σ b ∧ σ1 76 0 b = σ 76 0 b := fun σ1 h => ⟨hM.keep hT h (fun t i j q => by have := q.1; omega), funext fun p => h _ _ _ (fun q => by have := q.1; omega), h _ _ _ (fun q => by have := q.1; omega)⟩
  have outer : ∀ (m : Nat) (r : Int) (σ1 : SS), 2 ≤ r → r + m = 2 + σ 76 0 b → Fm C σ σ1 → (∀ r' : Int, 2 ≤ r' → r' < r → ∃ h : Nat, σ1 75 0 (44 * b + r') = 40 * b + h ∧ HmOK T b (nuM σ b) r' h) → G (d + 1) PP 65 2 [vr 62 0, vi b, vi r, vu, vu, vu] [] σ1 := by
    intro m
    induction m with
    | zero =>
      intro r σ1 hr hrm hF hh
      have e8 := (hMk σ1 hF).2.2
      refine b_65_2 ⟨hb, by rw [e8]; exact irI (by omega) (by omega), fun _ => ⟨rfl, hF, fun r' a c => hh r' a (by omega)⟩, fun q => absurd q (by rw [e8]; omega)⟩
    | succ m ih =>
      intro r σ1 hr hrm hF hh
      obtain ⟨hM1, hnu, e8⟩ := hMk σ1 hF
      have e65 := (hM1.1 b hb).1
      obtain ⟨pw, pw1, pw2⟩ := o4 r hr (by omega)
      have hpwm : nmA (tS T b) pw = false := by
        rcases o3 pw pw1 with ⟨z, _⟩ | ⟨_, _, z, _⟩
        · omega
        · exact z.2.1
      have hir0 : ir (40 * b) := irI (by omega) (by omega)
      refine b_65_2 ⟨hb, by rw [e8]; exact irI (by omega) (by omega), fun q => absurd q (by rw [e8]; omega), fun _ => ⟨hir0, ?_⟩⟩
      -- the home
      have setH : ∀ (lo hi : Nat), lo ≤ hi → hi < tN T b → toA T b (nuM σ b) lo r → toA T b (nuM σ b) hi r → (∀ t, t < tN T b → toA T b (nuM σ b) t r → lo ≤ t ∧ t ≤ hi) → ∀ (m2 k : Nat) (σ2 : SS), k + m2 = lo + 1 → Fm (fun t _ j => t = 75 ∧ j = 44 * b + r) σ1 σ2 →
          (0 < k → ∃ h : Nat, h < k ∧ σ2 75 0 (44 * b + r) = 40 * b + h ∧ nmA (tS T b) h = false ∧ hi < enA (tN T b) (tS T b) h ∧ ∀ h', h' < k → nmA (tS T b) h' = false → hi < enA (tN T b) (tS T b) h' → h' ≤ h) → G (d + 1) PP 65 47 [vr 62 0, vi b, vi r, vi (40 * b + (lo : Int)), vi (40 * b + (hi : Int)), vi (40 * b + (k : Int))] [] σ2 := by
        intro lo hi hlh hhn hlo hhi hall m2
        induction m2 with
        | zero =>
          intro k σ2 hk g1 g2
          obtain ⟨h, h1, h2, h3, h4, h5⟩ := g2 (by omega)
          refine b_65_47 ⟨fun _ => ⟨irI (by omega) (by omega), ih (r + 1) σ2 (by omega) (by omega) (hF.tr (g1.mono fun t i j w => ⟨w.1, by omega, by omega⟩)) fun r' a c => ?_⟩, fun q => absurd q (by omega)⟩
          by_cases w : r' = r
          · subst w
            refine ⟨h, h2, by omega, h3, fun t ht hta => ?_, fun h' a1 a2 a3 => h5 h' ?_ a2 ?_⟩
            · have := hall t ht hta; omega
            · have := (a3 lo (by omega) hlo).1; omega
            · exact (a3 hi hhn hhi).2
          · rw [g1 _ _ _ (by omega)]; exact hh r' a (by omega)
        | succ m2 ih2 =>
          intro k σ2 hk g1 g2
          have hkn : k < tN T b := by omega
          have i2 := ih2 (k + 1)
          rw [nat1, show (40 * b + ((k : Int) + 1)) = 40 * b + k + 1 by omega] at i2
          have hM2 : MW T σ2 := hM1.keep hT g1 (fun t i j w => by omega)
          have hrg : (0 : Int) ≤ 40 * b + k ∧ 40 * b + (k : Int) < 120 := by omega
          have hir : ir (40 * b + (k : Int) + 1) := irI (by omega) (by omega)
          have e67 := ((hM2.2 b hb) k hkn).1
          have skip : ¬ (nmA (tS T b) k = false ∧ hi < enA (tN T b) (tS T b) k) → G (d + 1) PP 65 47 [vr 62 0, vi b, vi r, vi (40 * b + (lo : Int)), vi (40 * b + (hi : Int)), vi (40 * b + (k : Int) + 1)] [] σ2 := fun hno => by
            refine i2 σ2 (by omega) g1 fun _ => ?_
            have hk0 : 0 < k := by
              rcases Nat.eq_zero_or_pos k with z | z
              · subst z; exact absurd ⟨rfl, by rw [en_root hg]; exact hhn⟩ hno
              · exact z
            obtain ⟨h, h1, h2, h3, h4, h5⟩ := g2 hk0
            refine ⟨h, by omega, h2, h3, h4, fun h' a1 a2 a3 => ?_⟩
            rcases Nat.eq_or_lt_of_le (Nat.le_of_lt_succ a1) with z | z
            · subst z; exact absurd ⟨a2, a3⟩ hno
            · exact h5 h' z a2 a3
          refine b_65_47 ⟨fun q => absurd q (by omega), fun _ => ⟨hrg, ?_⟩⟩
          rw [e67]
          refine ⟨fun q => ⟨hir, skip fun w => ?_⟩, fun q => ⟨hrg, ?_⟩⟩
          · have := kos_ge hg hkn w.1
            unfold whA at q; rw [w.1] at q
            have q' : kos (tS T b k) < 0 := q
            omega
          have hm : nmA (tS T b) k = false := by
            cases h : nmA (tS T b) k
            · rfl
            · unfold whA at q; rw [if_pos h] at q; omega
          have e71 := (m_at hT hb (hM2.2 b hb) hkn hm).2.2.2.2.2
          rw [e71]
          refine ⟨fun w => ⟨hir, skip fun z => by have := z.2; omega⟩, fun w => ⟨irI (by omega) (by omega), irI (by omega) (by omega), by omega, fun σ3 e3 => ⟨hir, i2 σ3 (by omega) (by rw [e3]; exact g1.up ⟨rfl, rfl⟩) fun _ => ⟨k, by omega, by rw [e3, up_eq ⟨rfl, rfl, rfl⟩], hm, by omega, fun h' a1 a2 a3 => by omega⟩⟩⟩⟩
      have scan : ∀ (m2 k : Nat) (l3 l4 : Int), k + m2 = tN T b → ((l3 = -6 ∧ l4 = -6 ∧ ∀ t, t < k → ¬ toA T b (nuM σ b) t r) ∨ (∃ lo hi : Nat, l3 = 40 * b + lo ∧ l4 = 40 * b + hi ∧ lo ≤ hi ∧ hi < k ∧ toA T b (nuM σ b) lo r ∧ toA T b (nuM σ b) hi r ∧ ∀ t, t < k → toA T b (nuM σ b) t r → lo ≤ t ∧ t ≤ hi)) → G (d + 1) PP 65 18 [vr 62 0, vi b, vi r, vi l3, vi l4, vi (40 * b + (k : Int))] [] σ1 := by
        intro m2
        induction m2 with
        | zero =>
          intro k l3 l4 hk hst
          obtain rfl : k = tN T b := by omega
          refine b_65_18 ⟨hir0, hb, by rw [e65]; exact irI (by omega) (by omega), fun _ => ⟨hir0, ?_⟩, fun q => absurd q (by rw [e65]; omega)⟩
          rcases hst with ⟨_, _, z⟩ | ⟨lo, hi, z1, z2, z3, z4, z5, z6, z7⟩
          · exact absurd ⟨hpwm, Or.inl pw2⟩ (z pw pw1)
          · have := setH lo hi z3 z4 z5 z6 z7 (lo + 1) 0 σ1 (by omega) (Fm.rf σ1) (fun w => by omega)
            rw [z1, z2]
            simpa using this
        | succ m2 ih2 =>
          intro k l3 l4 hk hst
          have hkn : k < tN T b := by omega
          have i2 := ih2 (k + 1)
          rw [nat1, show (40 * b + ((k : Int) + 1)) = 40 * b + k + 1 by omega] at i2
          have hir : ir (40 * b + (k : Int) + 1) := irI (by omega) (by omega)
          have hto := m_touch (d := d) hT hW hb hM1 hkn (r := r)
          rw [hnu] at hto
          refine b_65_18 ⟨hir0, hb, by rw [e65]; exact irI (by omega) (by omega), fun q => absurd q (by rw [e65]; omega), fun _ => ⟨_, σ1, hto, fun q => ⟨hir, i2 l3 l4 (by omega) ?_⟩, fun q => ?_⟩⟩
          · have hno : ¬ toA T b (nuM σ b) k r := fun w => by
              rw [if_pos (toB_iff.mpr w)] at q; cases q
            rcases hst with ⟨y1, y2, z⟩ | ⟨lo, hi, z1, z2, z3, z4, z5, z6, z7⟩
            · refine Or.inl ⟨y1, y2, fun t ht => ?_⟩
              rcases Nat.eq_or_lt_of_le (Nat.le_of_lt_succ ht) with w | w
              · subst w; exact hno
              · exact z t w
            · refine Or.inr ⟨lo, hi, z1, z2, z3, by omega, z5, z6, fun t ht hta => ?_⟩
              rcases Nat.eq_or_lt_of_le (Nat.le_of_lt_succ ht) with w | w
              · subst w; exact absurd hta hno
              · exact z7 t w hta
          · have hyes : toA T b (nuM σ b) k r := by
              rcases em (toA T b (nuM σ b) k r) with w | w
              · exact w
              · exfalso; apply q; rw [if_neg (fun z => w (toB_iff.mp z))]
            rcases hst with ⟨y1, y2, z⟩ | ⟨lo, hi, z1, z2, z3, z4, z5, z6, z7⟩
            · refine ⟨fun w => absurd w (by omega), fun _ => ⟨hir, i2 _ _ (by omega) (Or.inr ⟨k, k, rfl, rfl, Nat.le_refl _, by omega, hyes, hyes, fun t ht hta => ?_⟩)⟩⟩
              rcases Nat.eq_or_lt_of_le (Nat.le_of_lt_succ ht) with w | w
              · omega
              · exact absurd hta (z t w)
            · refine ⟨fun _ => ⟨hir, i2 _ _ (by omega) (Or.inr ⟨lo, k, z1, rfl, by omega, by omega, z5, hyes, fun t ht hta => ?_⟩)⟩, fun w => absurd w (by omega)⟩
              rcases Nat.eq_or_lt_of_le (Nat.le_of_lt_succ ht) with w | w
              · omega
              · have := z7 t w hta; omega
      have := scan (tN T b) 0 (-6) (-6) (by omega) (Or.inl ⟨rfl, rfl, fun t ht => by omega⟩)
      simpa using this
  have : Ok (d + 2) 65 [vr 62 0, vi b] σ PP := G_ok rfl (b_65_0 (outer (σ 76 0 b).toNat 2 σ (by omega) (by omega) (Fm.rf σ) (fun r' a c => by omega)))
  obtain ⟨v, σ', h1, rfl, h2, h3⟩ := this
  exact ⟨σ', h1, h2, h3⟩
end MLAY
