/-! ===== passes and numbers: the class ===== -/
def CW (T : TP) (σ : SS) : Prop := CTx T σ ∧ ∀ b, isB b → CTr T b σ ∧ CKb T b σ
theorem CW.keep {T : TP} {C : Nat → Int → Int → Prop} {σ σ' : SS} (h : CW T σ) (hF : Fm C σ σ') (hc : ∀ t i j, C t i j → t ≤ 4 ∨ 46 ≤ t) : CW T σ' := by
  refine ⟨h.1.keep hF (fun t i j q => by have := hc t i j q; omega), fun b hb => ⟨(h.2 b hb).1.keep hF (fun t i j q w => by have := hc t i j q; unfold Ctm at w; omega), fun p hp => ?_⟩⟩
  rw [hF _ _ _ fun q => by have := hc _ _ _ q; omega]
  exact (h.2 b hb).2 p hp
def EdQ (T : TP) (b : Int) (ps : Int → Int) (p y : Nat) : Prop := bxA T b p ∧ (
  (kos (tS T b p) = 1 ∧ y = 40) ∨ (kos (tS T b p) = 2 ∧ (y : Int) = c0A (tS T b) (bnA (tN T b) (tS T b) p).toNat) ∨
  (kos (tS T b p) = 7 ∧ (y = c1A (tN T b) (tS T b) p ∨ y = c2A (tN T b) (tS T b) p)) ∨ (kos (tS T b p) = 8 ∧ y = c1A (tN T b) (tS T b) p) ∨
  (kos (tS T b p) = 9 ∧ ps (ofA (tS T b) p) ≠ 0 ∧ y = c0A (tS T b) p))
theorem EdP_iff {T : TP} {b : Int} {ps : Int → Int} {p y : Nat} : EdP T b ps p y ↔ EdQ T b ps p y ∨ (bxA T b p ∧ p = 0 ∧ y = 41) := by
  unfold EdP EdQ
  constructor
  · rintro ⟨h, h1 | h1 | h1 | h1 | h1 | h1⟩
    · exact Or.inl ⟨h, Or.inl h1⟩
    · exact Or.inl ⟨h, Or.inr (Or.inl h1)⟩
    · exact Or.inl ⟨h, Or.inr (Or.inr (Or.inl h1))⟩
    · exact Or.inl ⟨h, Or.inr (Or.inr (Or.inr (Or.inl h1)))⟩
    · exact Or.inl ⟨h, Or.inr (Or.inr (Or.inr (Or.inr h1)))⟩
    · exact Or.inr ⟨h, h1⟩
  · rintro (⟨h, h1 | h1 | h1 | h1 | h1⟩ | ⟨h, h1⟩)
    · exact ⟨h, Or.inl h1⟩
    · exact ⟨h, Or.inr (Or.inl h1)⟩
    · exact ⟨h, Or.inr (Or.inr (Or.inl h1))⟩
    · exact ⟨h, Or.inr (Or.inr (Or.inr (Or.inl h1)))⟩
    · exact ⟨h, Or.inr (Or.inr (Or.inr (Or.inr (Or.inl h1))))⟩
    · exact ⟨h, Or.inr (Or.inr (Or.inr (Or.inr (Or.inr h1))))⟩
/-- the ties of the first k parts, both ways -/
def EkA (T : TP) (b : Int) (ps : Int → Int) (k x y : Nat) : Prop := (x < k ∧ EdQ T b ps x y) ∨ (y < k ∧ EdQ T b ps y x)
theorem Ek_step {T : TP} {b : Int} {ps : Int → Int} {k x y : Nat} : EkA T b ps (k + 1) x y ↔ EkA T b ps k x y ∨ (x = k ∧ EdQ T b ps k y) ∨ (y = k ∧ EdQ T b ps k x) := by
  unfold EkA
  constructor
  · rintro (⟨h, h1⟩ | ⟨h, h1⟩)
    · rcases Nat.eq_or_lt_of_le (Nat.le_of_lt_succ h) with w | w
      · subst w; exact Or.inr (Or.inl ⟨rfl, h1⟩)
      · exact Or.inl (Or.inl ⟨w, h1⟩)
    · rcases Nat.eq_or_lt_of_le (Nat.le_of_lt_succ h) with w | w
      · subst w; exact Or.inr (Or.inr ⟨rfl, h1⟩)
      · exact Or.inl (Or.inr ⟨w, h1⟩)
  · rintro ((⟨h, h1⟩ | ⟨h, h1⟩) | ⟨rfl, h1⟩ | ⟨rfl, h1⟩)
    · exact Or.inl ⟨by omega, h1⟩
    · exact Or.inr ⟨by omega, h1⟩
    · exact Or.inl ⟨by omega, h1⟩
    · exact Or.inr ⟨by omega, h1⟩
theorem Ek_lt {T : TP} (hT : TOKA T) (hW : welA T) {b : Int} (hb : isB b) {ps : Int → Int} {k x y : Nat} (h : EkA T b ps k x y) : x < 42 ∧ y < 42 := by
  rcases h with ⟨_, h⟩ | ⟨_, h⟩
  · have := ed_lt hT hW hb (EdP_iff.mpr (Or.inl h)); omega
  · have := ed_lt hT hW hb (EdP_iff.mpr (Or.inl h)); omega
def lbA (b : Int) (σ : SS) : Nat → Int := fun x => σ 46 b x
def psA (σ : SS) : Int → Int := fun c => σ 4 c 6
section CPASS
variable {T : TP} {b : Int} {d : Nat} {σ : SS}
theorem c_join {a c : Nat} (ha : a < 42) (hc : c < 42) : ∃ σ', Rn (d + 2) 92 [vr 4 b, vi (a : Int), vi (c : Int)] σ vu σ' ∧ Fm (fun t i _ => t = 46 ∧ i = b) σ σ' ∧ ∀ x : Nat, x < 42 → lbA b σ' x = if lbA b σ x = lbA b σ c then lbA b σ a else lbA b σ x := by
  have key : ∀ (m k : Nat) (σ1 : SS), k + m = 42 → Fm (fun t i _ => t = 46 ∧ i = b) σ σ1 → (∀ x : Nat, x < 42 → σ1 46 b x = if x < k then (if lbA b σ x = lbA b σ c then lbA b σ a else lbA b σ x) else lbA b σ x) →
      G (d + 1) (fun v σ' => v = vu ∧ Fm (fun t i _ => t = 46 ∧ i = b) σ σ' ∧ ∀ x : Nat, x < 42 → lbA b σ' x = if lbA b σ x = lbA b σ c then lbA b σ a else lbA b σ x) 92 12 [vr 4 b, vu, vu, vi (lbA b σ a), vi (lbA b σ c), vi (k : Int)] [] σ1 := by
    intro m
    induction m with
    | zero =>
      intro k σ1 hk hF hl
      refine b_92_12 ⟨fun _ => ⟨rfl, hF, fun x hx => ?_⟩, fun q => absurd q (by omega)⟩
      have := hl x hx
      rw [if_pos (by omega)] at this
      exact this
    | succ m ih =>
      intro k σ1 hk hF hl
      have i1 := ih (k + 1)
      rw [nat1] at i1
      have e := hl k (by omega)
      rw [if_neg (by omega)] at e
      refine b_92_12 ⟨fun q => absurd q (by omega), fun _ => ?_⟩
      rw [rgN (by omega), e]
      refine ⟨fun h1 => ⟨irI (by omega) (by omega), i1 σ1 (by omega) hF fun x hx => ?_⟩, fun h1 σ2 e2 => ⟨irI (by omega) (by omega), i1 σ2 (by omega) ?_ fun x hx => ?_⟩⟩
      · by_cases q : x = k
        · subst q; rw [e, if_pos (by omega), if_neg h1]
        · rw [hl x hx]
          by_cases w : x < k
          · rw [if_pos w, if_pos (show x < k + 1 by omega)]
          · rw [if_neg w, if_neg (by omega)]
      · rw [us_in ⟨by omega, by omega⟩] at e2
        rw [e2]; exact hF.up ⟨rfl, rfl⟩
      · rw [us_in ⟨by omega, by omega⟩] at e2
        by_cases q : x = k
        · subst q; rw [e2, up_eq ⟨rfl, rfl, rfl⟩, if_pos (by omega), if_pos h1]
        · rw [e2, up_ne (by omega), hl x hx]
          by_cases w : x < k
          · rw [if_pos w, if_pos (show x < k + 1 by omega)]
          · rw [if_neg w, if_neg (by omega)]
  have : Ok (d + 2) 92 [vr 4 b, vi (a : Int), vi (c : Int)] σ _ := G_ok rfl (b_92_0 (by
    rw [rgN (by omega), rgN (by omega)]
    exact key 42 0 σ (by omega) (Fm.rf σ) (fun x hx => by rw [if_neg (by omega)]; rfl)))
  obtain ⟨v, σ', h1, rfl, h2, h3⟩ := this
  exact ⟨σ', h1, h2, h3⟩
theorem c_joinE {a c : Nat} (ha : a < 42) (hc : c < 42) {E : Nat → Nat → Prop} (hE : ∀ a b, E a b → a < 42 ∧ b < 42) (h : EqL (lbA b σ) E) : ∃ σ', Rn (d + 2) 92 [vr 4 b, vi (a : Int), vi (c : Int)] σ vu σ' ∧ Fm (fun t i _ => t = 46 ∧ i = b) σ σ' ∧ EqL (lbA b σ') (fun x y => E x y ∨ (x = a ∧ y = c) ∨ (x = c ∧ y = a)) := by
  obtain ⟨σ', h1, h2, h3⟩ := c_join (d := d) (b := b) (σ := σ) ha hc
  exact ⟨σ', h1, h2, h.add hE ha hc h3⟩
theorem bx_kos (hW : welA T) (hb : isB b) {p : Nat} (h : bxA T b p) : kos (tS T b p) = 3 ∨ kos (tS T b p) = 1 ∨ kos (tS T b p) = 9 ∨ kos (tS T b p) = 7 ∨ kos (tS T b p) = 8 ∨ kos (tS T b p) = 2 := by
  have hk := kd_eq (hW b hb).1 h.1 h.2.1
  rw [h.2.2] at hk
  by_cases e1 : kos (tS T b p) = 3
  · exact Or.inl e1
  rw [if_neg e1] at hk
  by_cases e2 : kos (tS T b p) = 1
  · exact Or.inr (Or.inl e2)
  rw [if_neg e2] at hk
  by_cases e3 : kos (tS T b p) = 9
  · exact Or.inr (Or.inr (Or.inl e3))
  rw [if_neg e3] at hk
  by_cases e4 : kos (tS T b p) = 7 ∨ kos (tS T b p) = 8
  · rcases e4 with e4 | e4
    · exact Or.inr (Or.inr (Or.inr (Or.inl e4)))
    · exact Or.inr (Or.inr (Or.inr (Or.inr (Or.inl e4))))
  rw [if_neg e4] at hk
  by_cases e5 : kos (tS T b p) = 2
  · exact Or.inr (Or.inr (Or.inr (Or.inr (Or.inr e5))))
  rw [if_neg e5] at hk
  cases hk
theorem c_joinPart (hT : TOKA T) (hW : welA T) (hb : isB b) (hC : CW T σ) {k : Nat} (hx : bxA T b k) (h : EqL (lbA b σ) (EkA T b (psA σ) k)) :
    ∃ σ', Rn (d + 3) 91 [vr 4 b, vr 2 0, vi (k : Int)] σ vu σ' ∧ Fm (fun t i _ => t = 46 ∧ i = b) σ σ' ∧ EqL (lbA b σ') (EkA T b (psA σ) (k + 1)) := by
  have hn := (hT b hb).1
  have hg := (hW b hb).1
  obtain ⟨hk, hm, hkd⟩ := hx
  have hr := (hC.2 b hb).1
  have hlt : ∀ x y, EkA T b (psA σ) k x y → x < 42 ∧ y < 42 := fun x y q => Ek_lt hT hW hb q
  have e39 : rg 40 (σ 39 b) (k : Int) = tS T b k := by rw [c_39 hT hb hr hk, hm]; rfl
  have one : ∀ c : Nat, c < 42 → (∀ y, EdQ T b (psA σ) k y ↔ y = c) → ∃ σ', Rn (d + 2) 92 [vr 4 b, vi (k : Int), vi (c : Int)] σ vu σ' ∧ Fm (fun t i _ => t = 46 ∧ i = b) σ σ' ∧ EqL (lbA b σ') (EkA T b (psA σ) (k + 1)) := by
    intro c hc hq
    obtain ⟨σ', h1, h2, h3⟩ := c_joinE (d := d) (b := b) (σ := σ) (show k < 42 by omega) hc hlt h
    refine ⟨σ', h1, h2, h3.cong (fun x y w => Ek_step.mpr ?_) (fun x y w => ?_)⟩
    · rcases w with w | ⟨rfl, rfl⟩ | ⟨rfl, rfl⟩
      · exact Or.inl w
      · exact Or.inr (Or.inl ⟨rfl, (hq _).mpr rfl⟩)
      · exact Or.inr (Or.inr ⟨rfl, (hq _).mpr rfl⟩)
    · rcases Ek_step.mp w with w | ⟨rfl, w⟩ | ⟨rfl, w⟩
      · exact Or.inl w
      · exact Or.inr (Or.inl ⟨rfl, (hq _).mp w⟩)
      · exact Or.inr (Or.inr ⟨(hq _).mp w, rfl⟩)
  have none : (∀ y, ¬ EdQ T b (psA σ) k y) → EqL (lbA b σ) (EkA T b (psA σ) (k + 1)) := fun q => h.cong (fun x y w => Ek_step.mpr (Or.inl w)) (fun x y w => by
    rcases Ek_step.mp w with w | ⟨_, w⟩ | ⟨_, w⟩
    · exact w
    · exact absurd w (q _)
    · exact absurd w (q _))
  have i0 : ir (3 * (k : Int)) ∧ ir (3 * (k : Int) + 0) := ⟨irI (by omega) (by omega), irI (by omega) (by omega)⟩
  have i1 : ir (3 * (k : Int)) ∧ ir (3 * (k : Int) + 1) := ⟨irI (by omega) (by omega), irI (by omega) (by omega)⟩
  have i2 : ir (3 * (k : Int)) ∧ ir (3 * (k : Int) + 2) := ⟨irI (by omega) (by omega), irI (by omega) (by omega)⟩
  have : Ok (d + 3) 91 [vr 4 b, vr 2 0, vi (k : Int)] σ (fun v σ' => v = vu ∧ Fm (fun t i _ => t = 46 ∧ i = b) σ σ' ∧ EqL (lbA b σ') (EkA T b (psA σ) (k + 1))) := by
    refine G_ok rfl (b_91_0 ?_)
    rw [e39]
    refine ⟨fun h63 h64 h108 h110 h120 => ?_, fun h63 => ⟨i1, ?_⟩, fun h64 => ?_, fun h108 => ⟨i1, ?_⟩, fun h110 => ⟨rfl, Fm.rf σ, none fun y w => ?_⟩, fun h120 => ?_, trivial⟩
    · have h2 : kos (tS T b k) = 2 := by
        rcases bx_kos hW hb ⟨hk, hm, hkd⟩ with w | w | w | w | w | w
        · exact absurd (kos_3.mp w) h110
        · exact absurd (kos_1.mp w) h120
        · exact absurd (kos_9.mp w) h64
        · exact absurd (kos_7.mp w) h63
        · exact absurd (kos_8.mp w) h108
        · exact w
      obtain ⟨q, q1, q2, q3, q4, q5, q6⟩ := wel_let hW hb hk hm h2
      have hqn : q < tN T b := by omega
      rw [c_44 hT hb hr hk hm (kos_2.mp h2), q1]
      have e := c_in hT hb hr hqn q3 0 (by rw [q4]; decide)
      rw [show ((0 : Nat) : Int) = 0 from rfl] at e
      rw [e]
      have k1 := kid1 hg hqn q3 (by rw [q4]; decide)
      obtain ⟨σ', h1, h2', h3⟩ := one (c0A (tS T b) q) (by omega) (fun y => by
        unfold EdQ
        rw [q1, Int.toNat_natCast]
        constructor
        · rintro ⟨_, w | w | w | w | w⟩
          · omega
          · omega
          · omega
          · omega
          · omega
        · intro w; exact ⟨⟨hk, hm, hkd⟩, Or.inr (Or.inl ⟨h2, by omega⟩)⟩)
      exact ⟨⟨irI (by omega) (by omega), irI (by omega) (by omega)⟩, σ', h1, rfl, h2', h3⟩
    · have h7 := kos_7.mpr h63
      have e1 := c_in hT hb hr hk hm 1 (by rw [h7]; decide)
      rw [show ((1 : Nat) : Int) = 1 from rfl] at e1
      rw [e1]
      have k2 := kid2 hg hk hm (by rw [h7]; decide)
      have k3 := kids3 hg hk hm (by rw [h7]; decide)
      obtain ⟨σ1, h1, h2, h3⟩ := c_joinE (d := d) (b := b) (σ := σ) (show k < 42 by omega) (show c1A (tN T b) (tS T b) k < 42 by omega) hlt h
      refine ⟨σ1, h1, i2, ?_⟩
      have e2 : rg 120 (σ1 41 b) (3 * (k : Int) + 2) = c2A (tN T b) (tS T b) k := by
        have := c_in hT hb ((hC.keep h2 (fun t i j q => by omega)).2 b hb).1 hk hm 2 (by rw [h7]; decide)
        exact this
      rw [e2]
      obtain ⟨σ2, g1, g2, g3⟩ := c_joinE (d := d) (b := b) (σ := σ1) (show k < 42 by omega) (show c2A (tN T b) (tS T b) k < 42 by omega) (fun x y w => by
        rcases w with w | ⟨rfl, rfl⟩ | ⟨rfl, rfl⟩
        · exact hlt x y w
        · show _ ∧ c1A (tN T b) (tS T b) _ < 42; omega
        · show c1A (tN T b) (tS T b) _ < 42 ∧ _; omega) h3
      refine ⟨σ2, g1, rfl, h2.tr g2, g3.cong (fun x y w => Ek_step.mpr ?_) (fun x y w => ?_)⟩
      · have m1 : EdQ T b (psA σ) k (c1A (tN T b) (tS T b) k) := ⟨⟨hk, hm, hkd⟩, Or.inr (Or.inr (Or.inl ⟨h7, Or.inl rfl⟩))⟩
        have m2 : EdQ T b (psA σ) k (c2A (tN T b) (tS T b) k) := ⟨⟨hk, hm, hkd⟩, Or.inr (Or.inr (Or.inl ⟨h7, Or.inr rfl⟩))⟩
        rcases w with (w | ⟨rfl, rfl⟩ | ⟨rfl, rfl⟩) | ⟨rfl, rfl⟩ | ⟨rfl, rfl⟩
        · exact Or.inl w
        · exact Or.inr (Or.inl ⟨rfl, m1⟩)
        · exact Or.inr (Or.inr ⟨rfl, m1⟩)
        · exact Or.inr (Or.inl ⟨rfl, m2⟩)
        · exact Or.inr (Or.inr ⟨rfl, m2⟩)
      · have inv : ∀ z, EdQ T b (psA σ) k z → z = c1A (tN T b) (tS T b) k ∨ z = c2A (tN T b) (tS T b) k := by
          rintro z ⟨_, u | u | u | u | u⟩
          · omega
          · omega
          · exact u.2
          · omega
          · omega
        rcases Ek_step.mp w with w | ⟨rfl, w⟩ | ⟨rfl, w⟩
        · exact Or.inl (Or.inl w)
        · rcases inv _ w with z | z
          · exact Or.inl (Or.inr (Or.inl ⟨rfl, z⟩))
          · exact Or.inr (Or.inl ⟨rfl, z⟩)
        · rcases inv _ w with z | z
          · exact Or.inl (Or.inr (Or.inr ⟨z, rfl⟩))
          · exact Or.inr (Or.inr ⟨z, rfl⟩)
    · have h9 := kos_9.mpr h64
      have hof := (of_B hg hk hm h64).1
      rw [c_40 hT hb hr hk hm h64]
      refine ⟨_, σ, s_15 hof, b_91_45r ⟨fun q => ⟨rfl, Fm.rf σ, none fun y w => ?_⟩, fun q => ⟨i0, ?_⟩⟩⟩
      · obtain ⟨_, u | u | u | u | u⟩ := w
        · omega
        · omega
        · omega
        · omega
        · exact u.2.1 q
      · have k1 := kid1 hg hk hm (by rw [h9]; decide)
        have e := c_in hT hb hr hk hm 0 (by rw [h9]; decide)
        rw [show ((0 : Nat) : Int) = 0 from rfl] at e
        rw [e]
        obtain ⟨σ', h1, h2, h3⟩ := one (c0A (tS T b) k) (by omega) (fun y => by
          constructor
          · rintro ⟨_, w | w | w | w | w⟩
            · omega
            · omega
            · omega
            · omega
            · exact w.2.2
          · intro w; exact ⟨⟨hk, hm, hkd⟩, Or.inr (Or.inr (Or.inr (Or.inr ⟨h9, q, w⟩)))⟩)
        exact ⟨σ', h1, rfl, h2, h3⟩
    · have h8 := kos_8.mpr h108
      have k2 := kid2 hg hk hm (by rw [h8]; decide)
      have e := c_in hT hb hr hk hm 1 (by rw [h8]; decide)
      rw [show ((1 : Nat) : Int) = 1 from rfl] at e
      rw [e]
      obtain ⟨σ', h1, h2, h3⟩ := one (c1A (tN T b) (tS T b) k) (by omega) (fun y => by
        constructor
        · rintro ⟨_, w | w | w | w | w⟩
          · omega
          · omega
          · omega
          · exact w.2
          · omega
        · intro w; exact ⟨⟨hk, hm, hkd⟩, Or.inr (Or.inr (Or.inr (Or.inl ⟨h8, w⟩)))⟩)
      exact ⟨σ', h1, rfl, h2, h3⟩
    · have h3 := kos_3.mpr h110
      obtain ⟨_, u | u | u | u | u⟩ := w <;> omega
    · have h1' := kos_1.mpr h120
      obtain ⟨σ', h1, h2, h3⟩ := one 40 (by omega) (fun y => by
        constructor
        · rintro ⟨_, w | w | w | w | w⟩
          · exact w.2
          · omega
          · omega
          · omega
          · omega
        · intro w; exact ⟨⟨hk, hm, hkd⟩, Or.inl ⟨h1', w⟩⟩)
      exact ⟨σ', h1, rfl, h2, h3⟩
  obtain ⟨v, σ', h1, rfl, h2, h3⟩ := this
  exact ⟨σ', h1, h2, h3⟩
end CPASS
