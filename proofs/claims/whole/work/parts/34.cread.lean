/-! ===== the class's read ===== -/
theorem s_15 {d : Nat} {σ : SS} {i : Int} (h : isB i) : Rn (d + 1) 15 [vr 2 0, vi i] σ (vr 4 i) σ := G_rn rfl (b_15_0 ⟨fun q => absurd q (by unfold isB at h; omega), fun _ => ⟨fun q => absurd q (by unfold isB at h; omega), fun q => ⟨h, rfl, rfl⟩⟩⟩)
theorem s_15n {d : Nat} {σ : SS} {i : Int} (h : ¬ isB i) : Rn (d + 1) 15 [vr 2 0, vi i] σ vz σ := G_rn rfl (b_15_0 ⟨fun q => ⟨rfl, rfl⟩, fun q => ⟨fun q => ⟨rfl, rfl⟩, fun q => absurd (And.intro (by assumption) q) h⟩⟩)
theorem rgN {n : Int} {f : Int → Int} {k : Nat} (h : (k : Int) < n) : rg n f (k : Int) = f k := rg_in ⟨by omega, h⟩
/-- the i-th term, by places -/
def xkA (n : Nat) (s : Int → Int) (p : Nat) : Nat → Nat
  | 0 => c0A s p
  | i + 1 => enA n s (xkA n s p i)
theorem xk_1 {n : Nat} {s : Int → Int} {p : Nat} : xkA n s p 0 = c0A s p ∧ xkA n s p 1 = c1A n s p ∧ xkA n s p 2 = c2A n s p ∧ xkA n s p 3 = enA n s (c2A n s p) := ⟨rfl, rfl, rfl, rfl⟩
section XK
variable {n : Nat} {s : Int → Int}
theorem xk_spec (h : GoodA n s) {p : Nat} (hp : p < n) (hm : nmA s p = false) : ∀ i : Nat, (i : Int) ≤ inn (kos (s p)) →
    xkA n s p i ≤ n ∧ nmA s (xkA n s p i) = false ∧ opA s (xkA n s p i) = opA s p + inn (kos (s p)) - 1 - i ∧ p < xkA n s p i ∧ (∀ x, p < x → x < xkA n s p i → opA s p + inn (kos (s p)) - 1 - i < opA s x ∨ nmA s x = true) ∧ ((i : Int) < inn (kos (s p)) → xkA n s p i < n)
  | 0, hi => by
    obtain ⟨a, b, c, d, e⟩ := c0_spec h hp hm
    have h1 := op1 h hp
    refine ⟨b, c, by show opA s (c0A s p) = _; omega, a, fun x q1 q2 => Or.inr (e x q1 q2).2, fun q => lt_of_op h b (show 1 ≤ opA s (c0A s p) by omega)⟩
  | i + 1, hi => by
    obtain ⟨a, b, c, d, e, f⟩ := xk_spec h hp hm i (by omega)
    have h1 := op1 h hp
    have hl := f (by omega)
    obtain ⟨f1, f2, f3, f4⟩ := en_spec h hl
    obtain ⟨g1, g2⟩ := en_op h hl
    refine ⟨f2, g2, ?_, by show p < enA n s _; omega, fun x q1 q2 => ?_, fun q => lt_of_op h f2 ?_⟩
    · show opA s (enA n s _) = _
      rw [g1, c]; omega
    · rcases Nat.lt_trichotomy x (xkA n s p i) with y | y | y
      · rcases e x q1 y with z | z
        · left; omega
        · exact Or.inr z
      · subst y; left; omega
      · have := f4 x y q2; left; omega
    · show 1 ≤ opA s (enA n s (xkA n s p i))
      rw [g1, c]; omega
theorem xk_en (h : GoodA n s) {p : Nat} (hp : p < n) (hm : nmA s p = false) {i : Nat} (hi : (i : Int) = inn (kos (s p))) : xkA n s p i = enA n s p := by
  have ha := inn_rng (kos (s p))
  have h4 : i = 0 ∨ i = 1 ∨ i = 2 ∨ i = 3 := by omega
  rcases h4 with rfl | rfl | rfl | rfl
  · exact (kids0 h hp hm hi.symm).1.symm
  · exact (kids1 h hp hm hi.symm).symm
  · exact (kids2 h hp hm hi.symm).symm
  · exact (kids3 h hp hm hi.symm).2.symm
theorem kid_xk {p i c : Nat} : kidA n s p i c ↔ ((i : Int) < inn (kos (s p)) ∧ c = xkA n s p i) := by
  have ha := inn_rng (kos (s p))
  constructor
  · rintro ⟨h1, ⟨rfl, rfl⟩ | ⟨rfl, rfl⟩ | ⟨rfl, rfl⟩⟩ <;> exact ⟨h1, rfl⟩
  · rintro ⟨h1, rfl⟩
    have h4 : i = 0 ∨ i = 1 ∨ i = 2 := by omega
    rcases h4 with rfl | rfl | rfl
    · exact ⟨h1, Or.inl ⟨rfl, rfl⟩⟩
    · exact ⟨h1, Or.inr (Or.inl ⟨rfl, rfl⟩)⟩
    · exact ⟨h1, Or.inr (Or.inr ⟨rfl, rfl⟩)⟩
theorem op_le (h : GoodA n s) : ∀ (m k : Nat), k + m = n → opA s k ≤ m
  | 0, k, hk => by rw [show k = n by omega, h.2.1]; omega
  | m + 1, k, hk => by
    have := op_le h m (k + 1) (by omega)
    have := op_low (s := s) k
    omega
end XK
/-- the tree as the class has it -/
def CTp (n : Nat) (s : Int → Int) (b : Int) (σ : SS) (p : Nat) : Prop :=
  (∀ i : Nat, (i : Int) < inn (kos (s p)) → σ 41 b (3 * p + i) = xkA n s p i ∧ σ 42 b (xkA n s p i) = p) ∧ σ 43 b p = enA n s p
def ctA (s : Int → Int) (n : Nat) : Nat := cntA (fun p => !nmA s p) n
def CTr (T : TP) (b : Int) (σ : SS) : Prop :=
  (∀ p : Nat, p < tN T b → σ 39 b p = (if nmA (tS T b) p = true then 0 else tS T b p) ∧
    (nmA (tS T b) p = false → CTp (tN T b) (tS T b) b σ p) ∧
    σ 44 b p = (if nmA (tS T b) p = false ∧ 97 ≤ tS T b p ∧ tS T b p ≤ 100 then bnA (tN T b) (tS T b) p else -6) ∧
    σ 40 b p = (if nmA (tS T b) p = false ∧ tS T b p = 64 then ofA (tS T b) p else -6)) ∧
  σ 42 b 0 = -6 ∧ σ 5 b 10 = (ctA (tS T b) (tN T b) : Int)
/-- what reading body b changes in the class -/
def Ctm (b : Int) : Nat → Int → Int → Prop := fun t i _ => i = b ∧ (t = 5 ∨ (39 ≤ t ∧ t ≤ 45))
theorem CTr.keep {T : TP} {b : Int} {C : Nat → Int → Int → Prop} {σ σ' : SS} (h : CTr T b σ) (hF : Fm C σ σ') (hc : ∀ t i j, C t i j → Ctm b t i j → False) : CTr T b σ' := by
  have e : ∀ (t : Nat) (j : Int), (t = 5 ∨ (39 ≤ t ∧ t ≤ 45)) → σ' t b j = σ t b j := fun t j h1 => hF _ _ _ fun x => hc _ _ _ x ⟨rfl, h1⟩
  obtain ⟨h1, h2, h3⟩ := h
  refine ⟨fun p hp => ?_, by rw [e 42 0 (by omega)]; exact h2, by rw [e 5 10 (by omega)]; exact h3⟩
  obtain ⟨g1, g2, g3, g4⟩ := h1 p hp
  refine ⟨by rw [e 39 p (by omega)]; exact g1, fun hm => ⟨fun i hi => ?_, ?_⟩, by rw [e 44 p (by omega)]; exact g3, by rw [e 40 p (by omega)]; exact g4⟩
  · rw [e 41 _ (by omega), e 42 _ (by omega)]; exact (g2 hm).1 i hi
  · rw [e 43 _ (by omega)]; exact (g2 hm).2
section CREAD
variable {T : TP} {b : Int} {d : Nat}
theorem c_fill {σ : SS} : ∃ σ', Rn (d + 1) 2 [vr 9 b, vi 0] σ vu σ' ∧ Fm (fun t i _ => t = 39 ∧ i = b) σ σ' := by
  have key : ∀ (m k : Nat) (σ1 : SS), k + m = 40 → Fm (fun t i _ => t = 39 ∧ i = b) σ σ1 → G (d + 0) (fun v σ' => v = vu ∧ Fm (fun t i _ => t = 39 ∧ i = b) σ σ') 2 2 [vr 9 b, vi 0, vi (k : Int)] [] σ1 := by
    intro m
    induction m with
    | zero => intro k σ1 hk hF; exact b_2_2 ⟨fun _ => ⟨rfl, hF⟩, fun q => absurd q (by omega)⟩
    | succ m ih =>
      intro k σ1 hk hF
      refine b_2_2 ⟨fun q => absurd q (by omega), fun _ => ⟨by omega, fun σ2 e => ⟨irI (by omega) (by omega), ?_⟩⟩⟩
      have := ih (k + 1) σ2 (by omega) (by rw [e]; exact hF.up ⟨rfl, rfl⟩)
      rw [nat1] at this
      exact this
  have : Ok (d + 1) 2 [vr 9 b, vi 0] σ (fun v σ' => v = vu ∧ Fm (fun t i _ => t = 39 ∧ i = b) σ σ') := G_ok rfl (b_2_0 (key 40 0 σ (by omega) (Fm.rf σ)))
  obtain ⟨v, σ', h1, rfl, h2⟩ := this
  exact ⟨σ', h1, h2⟩
theorem c_fill0 {σ : SS} : ∃ σ', Rn (d + 1) 2 [vr 9 b, vi 0] σ vu σ' ∧ Fm (fun t i _ => t = 39 ∧ i = b) σ σ' ∧ ∀ j : Int, 0 ≤ j → j < 40 → σ' 39 b j = 0 := by
  have key : ∀ (m k : Nat) (σ1 : SS), k + m = 40 → Fm (fun t i _ => t = 39 ∧ i = b) σ σ1 → (∀ j : Int, 0 ≤ j → j < k → σ1 39 b j = 0) → G (d + 0) (fun v σ' => v = vu ∧ Fm (fun t i _ => t = 39 ∧ i = b) σ σ' ∧ ∀ j : Int, 0 ≤ j → j < 40 → σ' 39 b j = 0) 2 2 [vr 9 b, vi 0, vi (k : Int)] [] σ1 := by
    intro m
    induction m with
    | zero => intro k σ1 hk hF h0; exact b_2_2 ⟨fun _ => ⟨rfl, hF, fun j h1 h2 => h0 j h1 (by omega)⟩, fun q => absurd q (by omega)⟩
    | succ m ih =>
      intro k σ1 hk hF h0
      refine b_2_2 ⟨fun q => absurd q (by omega), fun _ => ⟨by omega, fun σ2 e => ⟨irI (by omega) (by omega), ?_⟩⟩⟩
      have := ih (k + 1) σ2 (by omega) (by rw [e]; exact hF.up ⟨rfl, rfl⟩) (fun j h1 h2 => by
        rw [e]
        by_cases q : j = k
        · rw [up_eq ⟨rfl, rfl, q⟩]
        · rw [up_ne (by omega)]; exact h0 j h1 (by omega))
      rw [nat1] at this
      exact this
  have : Ok (d + 1) 2 [vr 9 b, vi 0] σ _ := G_ok rfl (b_2_0 (key 40 0 σ (by omega) (Fm.rf σ) (fun j h1 h2 => by omega)))
  obtain ⟨v, σ', h1, rfl, h2, h3⟩ := this
  exact ⟨σ', h1, h2, h3⟩
/-- findFault -/
theorem ff_loop (hT : TOKA T) (hb : isB b) {σ0 : SS} (hC : CTx T σ0) {P : AV → SS → Prop}
    (hP : ∀ f σ, Fm (fun t i _ => t = 39 ∧ i = b) σ0 σ → IsFA (tN T b) (tS T b) f → (f = -6 → ∀ p : Nat, p < tN T b → σ 39 b p = if nmA (tS T b) p = true then 0 else tS T b p) → P (vi f) σ) :
    ∀ (m k : Nat) (σ : SS), tN T b ≤ k + m → k ≤ tN T b → nmA (tS T b) k = false → Fm (fun t i _ => t = 39 ∧ i = b) σ0 σ → (∀ j, j < k → ¬ badA (tS T b) j) → (∀ p : Nat, p < 40 → σ 39 b p = if nmA (tS T b) p = true ∨ k ≤ p then 0 else tS T b p) →
      G (d + 3) P 134 8 [vr 5 b, vi (opA (tS T b) k), vi (k : Int), vu, vu] [] σ := by
  have hb' := hb
  unfold isB at hb'
  have hn := (hT b hb).1
  have hCx : ∀ σ, Fm (fun t i _ => t = 39 ∧ i = b) σ0 σ → σ 6 b 1 = (tN T b : Int) ∧ ∀ p : Nat, p < 40 → rg 40 (σ 37 b) p = tS T b p := fun σ hF => by
    obtain ⟨m1, -, -, m4⟩ := hC.keep hF (fun t i j h => by omega) b hb
    exact ⟨m1, fun p hp => by rw [rgN (by omega)]; exact m4 p (by omega) (by omega)⟩
  generalize hs : tS T b = s at *
  generalize hnn : tN T b = n at *
  intro m
  induction m with
  | zero =>
    intro k σ hm hk hnm hF hbad hw
    obtain rfl : k = n := by omega
    obtain ⟨e65, -⟩ := hCx σ hF
    have hop := (op_pos hbad k (Nat.le_refl _)).1
    refine b_134_8 ⟨fun _ => ⟨fun h1 => ⟨fun _ => ?_, fun h2 => absurd h2 (by omega)⟩, fun h1 => ?_⟩, fun h1 => absurd h1 (by omega)⟩
    · refine hP _ σ hF (Or.inl ⟨rfl, hbad, by omega, hnm⟩) fun _ p hp => ?_
      rw [hw p (by omega)]
      cases h : nmA s p
      · rw [if_neg (by simp; omega), if_neg (by decide)]
      · rw [if_pos (by simp), if_pos rfl]
    · rw [e65]
      exact hP _ σ hF (Or.inr (Or.inl ⟨rfl, hbad, Or.inl (by omega)⟩)) (fun q => by omega)
  | succ m ih =>
    intro k σ hm hk hnm hF hbad hw
    obtain ⟨e65, e37⟩ := hCx σ hF
    rcases Nat.eq_or_lt_of_le hk with q | hkn
    · exact ih k σ (by omega) hk hnm hF hbad hw
    have hop := (op_pos (n := k) hbad k (Nat.le_refl _)).1
    have hopb : opA s k ≤ 1 + 3 * k := by
      clear hw hF e65 e37 hop hkn ih hm hnm
      induction k with
      | zero => simp [opA]
      | succ j ihj =>
        have i := ihj (by omega) (fun x hx => hbad x (by omega))
        have := inn_rng (kos (s j))
        cases h : nmA s j
        · rw [op_step h]; omega
        · rw [op_name h]; omega
    have hin := inn_rng (kos (s k))
    have htk := tin_kos (s k)
    refine b_134_8 ⟨fun h1 => absurd h1 (by omega), fun _ => ⟨fun h1 => ⟨fun _ => ⟨fun h2 => absurd h2 (by omega), fun _ => ?_⟩, fun h2 => absurd h2 (by omega)⟩, fun h1 => ?_⟩⟩
    · exact hP _ σ hF (Or.inr (Or.inr ⟨k, hkn, rfl, Or.inl (by omega), hbad⟩)) (fun q => by omega)
    rw [e37 k (by omega)]
    refine ⟨fun h2 => ?_, fun h2 => ?_⟩
    · have hk0 : 0 ≤ kos (s k) := by
        by_cases q : kos (s k) < 0
        · rw [if_pos q] at htk; omega
        · omega
      rw [if_neg (by omega)] at htk
      have nb : ¬ badA s k := by
        rintro (x | x | x)
        · omega
        · rw [hnm] at x; cases x.1
        · omega
      have hbad1 : ∀ j, j < k + 1 → ¬ badA s j := fun j hj => by
        rcases Nat.eq_or_lt_of_le (Nat.le_of_lt_succ hj) with x | x
        · subst x; exact nb
        · exact hbad j x
      intro σ1 e1
      rw [us_in ⟨by omega, by omega⟩] at e1
      have hF1 : Fm (fun t i _ => t = 39 ∧ i = b) σ0 σ1 := by rw [e1]; exact hF.up ⟨rfl, rfl⟩
      obtain ⟨e65', e37'⟩ := hCx σ1 hF1
      have hw1 : ∀ (z : Nat), (z = k + 1 ∨ (z = k + 2 ∧ nmA s (k + 1) = true)) → ∀ p : Nat, p < 40 → σ1 39 b p = if nmA s p = true ∨ z ≤ p then 0 else s p := fun z hz p hp => by
        by_cases q : p = k
        · subst q
          rw [e1, up_eq ⟨rfl, rfl, rfl⟩, if_neg]
          rw [hnm]; simp; omega
        · rw [e1, up_ne (by omega), hw p hp]
          rcases hz with rfl | ⟨rfl, hz⟩
          · by_cases x : k ≤ p
            · rw [if_pos (Or.inr x), if_pos (Or.inr (by omega))]
            · by_cases y : nmA s p = true
              · rw [if_pos (Or.inl y), if_pos (Or.inl y)]
              · rw [if_neg (by rintro (w | w); exact y w; omega), if_neg (by rintro (w | w); exact y w; omega)]
          · by_cases x : k ≤ p
            · rw [if_pos (Or.inr x)]
              by_cases y : p = k + 1
              · subst y; rw [if_pos (Or.inl hz)]
              · rw [if_pos (Or.inr (by omega))]
            · by_cases y : nmA s p = true
              · rw [if_pos (Or.inl y), if_pos (Or.inl y)]
              · rw [if_neg (by rintro (w | w); exact y w; omega), if_neg (by rintro (w | w); exact y w; omega)]
      have eo : opA s k + (tin (s k) - 1) = opA s (k + 1) := by rw [op_step hnm, htk]; omega
      rw [eo]
      have hob : opA s (k + 1) ≤ 1000 ∧ -1000 ≤ opA s (k + 1) := by rw [← eo, htk]; omega
      refine ⟨irI (by omega) (by omega), fun h3 => ⟨irI (by omega) (by omega), irI (by omega) (by omega), ?_⟩, fun h3 => ?_⟩
      · rw [ite0] at h3
        have hm1 : nmA s (k + 1) = false := by
          cases h : nmA s (k + 1)
          · rfl
          · exact absurd ((nm_next hnm).mp h) h3
        have := ih (k + 1) σ1 (by omega) (by omega) hm1 hF1 hbad1 (hw1 _ (Or.inl rfl))
        rw [nat1] at this
        exact this
      · rw [ite1] at h3
        have hm1 : nmA s (k + 1) = true := (nm_next hnm).mpr h3
        rw [e65']
        refine ⟨fun h4 => ⟨irI (by omega) (by omega), irI (by omega) (by omega), irI (by omega) (by omega), ?_⟩, fun h4 => ?_⟩
        · -- the name is wanting
          obtain rfl : n = k + 1 := by omega
          have hpos : 0 < opA s (k + 1) := by
            have := inn_nam h3
            rw [← eo, htk]; omega
          refine b_134_8 ⟨fun _ => ⟨fun h1 => absurd h1 (by omega), fun _ => ?_⟩, fun h1 => absurd h1 (by rw [e65']; omega)⟩
          rw [e65']
          exact hP _ σ1 hF1 (Or.inr (Or.inl ⟨rfl, hbad1, Or.inr hm1⟩)) (fun q => by omega)
        · have hk1 : k + 1 < n := by omega
          have e38 := e37' (k + 1) (by omega)
          rw [nat1] at e38
          rw [e38]
          refine ⟨fun h5 => ⟨irI (by omega) (by omega), irI (by omega) (by omega), irI (by omega) (by omega), ?_⟩, fun h5 => ?_⟩
          · have nb1 : ¬ badA s (k + 1) := by
              rintro (x | x | x)
              · have := inn_nam h3
                rw [← eo, htk] at x; omega
              · apply h5
                rw [← x.2]
                rw [show (((k + 1 : Nat) : Int) - 1) = (k : Int) by omega, nat1]
              · rw [hm1] at x; cases x.1
            have := ih (k + 2) σ1 (by omega) (by omega) (nm_after hm1) hF1 (fun j hj => by
              rcases Nat.eq_or_lt_of_le (Nat.le_of_lt_succ hj) with x | x
              · subst x; exact nb1
              · exact hbad1 j x) (hw1 _ (Or.inr ⟨rfl, hm1⟩))
            rw [show opA s (k + 2) = opA s (k + 1) from op_name hm1, show ((k + 2 : Nat) : Int) = (k : Int) + 1 + 1 by omega] at this
            exact this
          · have := hP ((k + 1 : Nat) : Int) σ1 hF1 (Or.inr (Or.inr ⟨k + 1, hk1, rfl, Or.inr (Or.inl ⟨hm1, by
              rw [show (((k + 1 : Nat) : Int) - 1) = (k : Int) by omega, nat1]; exact h5⟩), hbad1⟩)) (fun q => by omega)
            rw [nat1] at this
            exact this
    · have hk0 : kos (s k) < 0 := by
        by_cases q : kos (s k) < 0
        · exact q
        · rw [if_neg q] at htk; omega
      exact hP _ σ hF (Or.inr (Or.inr ⟨k, hkn, rfl, Or.inr (Or.inr ⟨hnm, hk0⟩), hbad⟩)) (fun q => by omega)
theorem c_fault (hT : TOKA T) (hb : isB b) {σ : SS} (hC : CTx T σ) : ∃ f σ', Rn (d + 4) 134 [vr 5 b] σ (vi f) σ' ∧ IsFA (tN T b) (tS T b) f ∧ Fm (fun t i _ => t = 39 ∧ i = b) σ σ' ∧ (f = -6 → ∀ p : Nat, p < tN T b → σ' 39 b p = if nmA (tS T b) p = true then 0 else tS T b p) := by
  have : Ok (d + 4) 134 [vr 5 b] σ (fun v σ' => ∃ f, v = vi f ∧ IsFA (tN T b) (tS T b) f ∧ Fm (fun t i _ => t = 39 ∧ i = b) σ σ' ∧ (f = -6 → ∀ p : Nat, p < tN T b → σ' 39 b p = if nmA (tS T b) p = true then 0 else tS T b p)) := by
    obtain ⟨σ1, h1, h2, h3⟩ := c_fill0 (d := d + 2) (b := b) (σ := σ)
    refine G_ok rfl (b_134_0 ⟨σ1, h1, ?_⟩)
    exact ff_loop hT hb hC (fun f σ g1 g2 g3 => ⟨f, rfl, g2, g1, g3⟩) (tN T b) 0 σ1 (by omega) (by omega) rfl h2 (fun j hj => by omega) (fun p hp => by rw [h3 p (by omega) (by omega), if_pos (Or.inr (Nat.zero_le _))])
  obtain ⟨v, σ', h1, f, rfl, h2, h3, h4⟩ := this
  exact ⟨f, σ', h1, h2, h3, h4⟩
end CREAD
