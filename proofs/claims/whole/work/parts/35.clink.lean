section CLINK
variable {T : TP} {b : Int} {d : Nat}
/-- the stack of linkParts, all places from k on being read -/
def WtA (n : Nat) (s : Int → Int) (b : Int) (σ : SS) (k : Nat) : Prop := ∀ v : Nat, 1 ≤ v → (v : Int) ≤ opA s k → ∃ e : Nat, σ 45 b ((v : Int) - 1) = e ∧ k ≤ e ∧ e < n ∧ nmA s e = false ∧ opA s e = v ∧ ∀ x, k ≤ x → x < e → ((v : Int) < opA s x ∨ nmA s x = true)
def Clk (b : Int) : Nat → Int → Int → Prop := fun t i j => i = b ∧ (t = 41 ∨ t = 42 ∨ t = 43 ∨ t = 45 ∨ (t = 5 ∧ j = 10))
theorem lk_in {n : Nat} {s : Int → Int} (h : GoodA n s) (hn : n ≤ 40) (hb : isB b) {k : Nat} (hk : k < n) (hm : nmA s k = false) {σ0 : SS} {P : AV → SS → Prop}
    (hw : WtA n s b σ0 (k + 1)) (ht : ∀ p : Nat, k + 1 ≤ p → p < n → nmA s p = false → CTp n s b σ0 p)
    (h39 : ∀ p : Nat, p < n → σ0 39 b p = if nmA s p = true then 0 else s p) (hc : σ0 5 b 10 = (ctA s n : Int) - ctA s (k + 1))
    (hG : ∀ σ, Fm (Clk b) σ0 σ → WtA n s b σ k → (∀ p : Nat, k ≤ p → p < n → nmA s p = false → CTp n s b σ p) → σ 5 b 10 = (ctA s n : Int) - ctA s k → G (d + 3) P 135 8 [vr 5 b, vi (opA s k), vi ((k : Int) - 1), vu, vu, vu, vu, vu] [] σ) :
    ∀ (m i : Nat) (σ : SS), ((i + m : Nat) : Int) = inn (kos (s k)) → Fm (fun t i _ => i = b ∧ (t = 41 ∨ t = 42)) σ0 σ → (∀ p : Nat, k + 1 ≤ p → p < n → nmA s p = false → CTp n s b σ p) →
      (∀ j : Nat, j < i → σ 41 b (3 * k + j) = xkA n s k j ∧ σ 42 b (xkA n s k j) = k) →
      G (d + 3) P 135 32 [vr 5 b, vi (opA s (k + 1) - i), vi (k : Int), vu, vi (xkA n s k i : Int), vi (inn (kos (s k))), vi (i : Int), vu] [] σ := by
  have hb' := hb
  unfold isB at hb'
  have hop := op1 h hk
  have hin := inn_rng (kos (s k))
  have hst := op_step hm
  have hcnt : ctA s (k + 1) = ctA s k + 1 := by unfold ctA; simp only [cntA, hm]; rfl
  have hcle : ctA s (k + 1) ≤ ctA s n ∧ ctA s n ≤ 40 := by
    refine ⟨?_, Nat.le_trans (cnt_le _ n) hn⟩
    have : ∀ m, ctA s (k + 1) ≤ ctA s (k + 1 + m) := by
      intro m
      induction m with
      | zero => exact Nat.le_refl _
      | succ m ih => exact Nat.le_trans ih (by unfold ctA; rw [← Nat.add_assoc]; simp only [cntA]; split <;> omega)
    have := this (n - (k + 1))
    rwa [show k + 1 + (n - (k + 1)) = n by omega] at this
  have hopk : opA s k ≤ 40 := by have := op_le h (n - k) k (by omega); omega
  intro m
  induction m with
  | zero =>
    intro i σ hi hF ht1 hj
    refine b_135_32 ⟨fun _ => ?_, fun q => absurd q (by omega)⟩
    intro σ1 e1 σ2 e2
    have hx := xk_en h hk hm (i := i) (by omega)
    rw [hx] at e1
    rw [us_in ⟨by omega, by omega⟩] at e1
    have eh : opA s (k + 1) - (i : Int) = opA s k - 1 := by omega
    rw [eh] at e2
    rw [us_in ⟨by omega, by omega⟩] at e2
    have e10 : σ2 5 b 10 = (ctA s n : Int) - ctA s (k + 1) := by
      rw [e2, up_ne (by omega), e1, up_ne (by omega), hF _ _ _ (by omega)]; exact hc
    rw [e10, eh]
    refine ⟨irI (by omega) (by omega), irI (by omega) (by omega), fun σ3 e3 => ⟨irI (by omega) (by omega), ?_⟩⟩
    have hF3 : Fm (Clk b) σ0 σ3 := by
      rw [e3, e2, e1]
      exact (((hF.mono (fun t i j q => by unfold Clk; omega)).up (by unfold Clk; omega)).up (by unfold Clk; omega)).up (by unfold Clk; omega)
    have := hG σ3 hF3 ?_ ?_ ?_
    · rw [show opA s k - 1 + 1 = opA s k by omega, show (k : Int) + -1 = (k : Int) - 1 by omega]
      exact this
    · intro v hv1 hv2
      by_cases q : (v : Int) = opA s k
      · refine ⟨k, ?_, Nat.le_refl _, hk, hm, q.symm, fun x h1 h2 => by omega⟩
        rw [e3, up_ne (by omega), e2, up_eq ⟨rfl, rfl, by omega⟩]
      · obtain ⟨e, f1, f2, f3, f4, f5, f6⟩ := hw v hv1 (by omega)
        refine ⟨e, ?_, by omega, f3, f4, f5, fun x h1 h2 => ?_⟩
        · rw [e3, up_ne (by omega), e2, up_ne (by omega), e1, up_ne (by omega), hF _ _ _ (by omega)]; exact f1
        · rcases Nat.eq_or_lt_of_le h1 with y | y
          · subst y; left; omega
          · exact f6 x y h2
    · intro p hp1 hp2 hp3
      rcases Nat.eq_or_lt_of_le hp1 with y | y
      · subst y
        refine ⟨fun j hj2 => ?_, ?_⟩
        · obtain ⟨g1, g2⟩ := hj j (by omega)
          rw [e3, up_ne (by omega), e2, up_ne (by omega), e1, up_ne (by omega), up_ne (by omega), up_ne (by omega), up_ne (by omega)]
          exact ⟨g1, g2⟩
        · rw [e3, up_ne (by omega), e2, up_ne (by omega), e1, up_eq ⟨rfl, rfl, rfl⟩]
      · obtain ⟨g1, g2⟩ := ht1 p y hp2 hp3
        refine ⟨fun j hj2 => ?_, ?_⟩
        · rw [e3, up_ne (by omega), e2, up_ne (by omega), e1, up_ne (by omega), up_ne (by omega), up_ne (by omega), up_ne (by omega)]
          exact g1 j hj2
        · rw [e3, up_ne (by omega), e2, up_ne (by omega), e1, up_ne (by omega)]
          exact g2
    · rw [e3, up_eq ⟨rfl, rfl, rfl⟩]
      omega
  | succ m ih =>
    intro i σ hi hF ht1 hj
    refine b_135_32 ⟨fun q => absurd q (by omega), fun _ => ?_⟩
    have hx := xk_spec h hk hm i (by omega)
    obtain ⟨x1, x2, x3, x4, x5, x6⟩ := hx
    have x6 := x6 (by omega)
    obtain ⟨v, hv⟩ : ∃ v : Nat, (v : Int) = opA s (k + 1) - i := ⟨(opA s (k + 1) - i).toNat, by omega⟩
    obtain ⟨e, f1, f2, f3, f4, f5, f6⟩ := hw v (by omega) (by omega)
    have hop' := op_le h (n - (k + 1)) (k + 1) (by omega)
    have he : e = xkA n s k i := by
      rcases Nat.lt_trichotomy e (xkA n s k i) with y | y | y
      · rcases x5 e (by omega) y with z | z
        · omega
        · rw [f4] at z; cases z
      · exact y
      · rcases f6 _ (by omega) y with z | z
        · omega
        · rw [x2] at z; cases z
    have e45 : rg 40 (σ 45 b) (opA s (k + 1) - (i : Int) + -1) = xkA n s k i := by
      rw [rg_in ⟨by omega, by omega⟩, hF _ _ _ (by omega), show opA s (k + 1) - (i : Int) + -1 = (v : Int) - 1 by omega, f1, he]
    rw [e45]
    refine ⟨irI (by omega) (by omega), irI (by omega) (by omega), irI (by omega) (by omega), ?_⟩
    intro σ4 e4 σ5 e5
    rw [us_in ⟨by omega, by omega⟩] at e4
    rw [us_in ⟨by omega, by omega⟩] at e5
    refine ⟨irI (by omega) (by omega), ?_⟩
    have hdis : ∀ p : Nat, k + 1 ≤ p → p < n → nmA s p = false → ∀ j : Nat, (j : Int) < inn (kos (s p)) → xkA n s p j ≠ xkA n s k i := by
      intro p hp1 hp2 hp3 j hj2 q
      have a1 := par_kid h hp2 hp3 (kid_xk.mpr ⟨hj2, rfl⟩)
      have a2 := par_kid h hk hm (kid_xk.mpr ⟨(show (i : Int) < inn (kos (s k)) by omega), rfl⟩)
      rw [q] at a1
      omega
    have hdis2 : ∀ j, j < i → xkA n s k j < xkA n s k i := by
      intro j hj2
      have : ∀ m : Nat, ((j + 1 + m : Nat) : Int) ≤ inn (kos (s k)) → xkA n s k j < xkA n s k (j + 1 + m) := by
        intro m
        induction m with
        | zero => intro hh; exact (en_spec h ((xk_spec h hk hm j (by omega)).2.2.2.2.2 (by omega))).1
        | succ m ihm => intro hh; exact Nat.lt_trans (ihm (by omega)) (en_spec h ((xk_spec h hk hm (j + 1 + m) (by omega)).2.2.2.2.2 (by omega))).1
      have := this (i - (j + 1)) (by omega)
      rwa [show j + 1 + (i - (j + 1)) = i by omega] at this
    have hF5 : Fm (fun t i _ => i = b ∧ (t = 41 ∨ t = 42)) σ0 σ5 := by rw [e5, e4]; exact (hF.up ⟨rfl, Or.inl rfl⟩).up ⟨rfl, Or.inr rfl⟩
    have := ih (i + 1) σ5 (by omega) hF5 (fun p hp1 hp2 hp3 => ?_) (fun j hj2 => ?_)
    · have e43 : rg 40 (σ5 43 b) (xkA n s k i : Int) = xkA n s k (i + 1) := by
        rw [rgN (by omega), hF5 _ _ _ (by omega)]
        exact (ht _ (by omega) x6 x2).2
      rw [e43]
      rw [show opA s (k + 1) - ((i + 1 : Nat) : Int) = opA s (k + 1) - (i : Int) + -1 by omega, nat1] at this
      exact this
    · obtain ⟨g1, g2⟩ := ht1 p hp1 hp2 hp3
      refine ⟨fun j hj2 => ?_, ?_⟩
      · have := hdis p hp1 hp2 hp3 j hj2
        rw [e5, up_ne (by omega), e4, up_ne (by omega), up_ne (by omega), up_ne (by omega)]
        exact g1 j hj2
      · rw [e5, up_ne (by omega), e4, up_ne (by omega)]; exact g2
    · by_cases q : j = i
      · subst q
        rw [e5, up_ne (by omega), e4, up_eq ⟨rfl, rfl, rfl⟩, up_eq ⟨rfl, rfl, rfl⟩]
        exact ⟨rfl, rfl⟩
      · have := hdis2 j (by omega)
        obtain ⟨g1, g2⟩ := hj j (by omega)
        rw [e5, up_ne (by omega), e4, up_ne (by omega), up_ne (by omega), up_ne (by omega)]
        exact ⟨g1, g2⟩
theorem c_link {n : Nat} {s : Int → Int} (h : GoodA n s) (hn : n ≤ 40) (hb : isB b) {σ0 : SS} (h6 : σ0 6 b 1 = (n : Int)) (h39 : ∀ p : Nat, p < n → σ0 39 b p = if nmA s p = true then 0 else s p) (hs : ∀ p : Nat, p < n → s p ≠ 0) (h10 : σ0 5 b 10 = 0) :
    ∃ σ', Rn (d + 4) 135 [vr 5 b] σ0 vu σ' ∧ Fm (Clk b) σ0 σ' ∧ (∀ p : Nat, p < n → nmA s p = false → CTp n s b σ' p) ∧ σ' 5 b 10 = (ctA s n : Int) ∧ σ' 42 b 0 = -6 := by
  have hb' := hb
  unfold isB at hb'
  have key : ∀ (P : AV → SS → Prop), (∀ σ', Fm (Clk b) σ0 σ' → (∀ p : Nat, p < n → nmA s p = false → CTp n s b σ' p) → σ' 5 b 10 = (ctA s n : Int) → σ' 42 b 0 = -6 → P vu σ') → ∀ (k : Nat) (σ : SS), k ≤ n → Fm (Clk b) σ0 σ → WtA n s b σ k → (∀ p : Nat, k ≤ p → p < n → nmA s p = false → CTp n s b σ p) → σ 5 b 10 = (ctA s n : Int) - ctA s k →
      G (d + 3) P 135 8 [vr 5 b, vi (opA s k), vi ((k : Int) - 1), vu, vu, vu, vu, vu] [] σ := by
    intro P hP k
    induction k with
    | zero =>
      intro σ hk hF hw ht hc
      refine b_135_8 ⟨fun _ => ?_, fun q => absurd q (by omega)⟩
      intro σ1 e1
      rw [us_in ⟨by omega, by omega⟩] at e1
      refine hP σ1 (by rw [e1]; exact hF.up (by unfold Clk; omega)) (fun p hp1 hp2 => ?_) (by rw [e1, up_ne (by omega), hc]; simp [ctA, cntA]) (by rw [e1, up_eq ⟨rfl, rfl, rfl⟩])
      obtain ⟨g1, g2⟩ := ht p (by omega) hp1 hp2
      refine ⟨fun j hj => ?_, by rw [e1, up_ne (by omega)]; exact g2⟩
      have := (xk_spec h hp1 hp2 j (by omega)).2.2.2.1
      rw [e1, up_ne (by omega), up_ne (by omega)]
      exact g1 j hj
    | succ k ih =>
      intro σ hk hF hw ht hc
      have hkn : k < n := by omega
      rw [show ((k + 1 : Nat) : Int) - 1 = (k : Int) by omega]
      refine b_135_8 ⟨fun q => absurd q (by omega), fun _ => ?_⟩
      have e39 : rg 40 (σ 39 b) (k : Int) = if nmA s k = true then 0 else s k := by
        rw [rgN (by omega), hF _ _ _ (by unfold Clk; omega)]; exact h39 k hkn
      rw [e39]
      cases hm : nmA s k
      · rw [if_neg (by decide)]
        have hop := op1 h hkn
        have hin := inn_rng (kos (s k))
        have hk0 : 0 ≤ kos (s k) := by
          rcases (show kos (s k) < 0 ∨ 0 ≤ kos (s k) by omega) with q | q
          · exact absurd (Or.inr (Or.inr ⟨hm, q⟩)) (h.1 k hkn)
          · exact q
        have htk := tin_kos (s k)
        rw [if_neg (by omega)] at htk
        rw [htk]
        have key2 : G (d + 3) P 135 32 [vr 5 b, vi (opA s (k + 1)), vi (k : Int), vu, vi (c0A s k : Int), vi (inn (kos (s k))), vi 0, vu] [] σ := by
          have := lk_in (d := d) h hn hb hkn hm hw ht (fun p hp => by rw [hF _ _ _ (by unfold Clk; omega)]; exact h39 p hp) hc (fun σ1 g1 g2 g3 g4 => ih σ1 (by omega) (hF.tr g1) g2 g3 g4) (inn (kos (s k))).toNat 0 σ (by omega) (Fm.rf σ) ht (fun j hj => by omega)
          simpa [xkA] using this
        refine ⟨fun _ => ⟨fun q => ⟨irI (by omega) (by omega), ?_⟩, fun q => ⟨irI (by omega) (by omega), ?_⟩⟩, fun q => absurd q (hs k hkn)⟩
        · rw [ite0] at q
          have : c0A s k = k + 1 := by unfold c0A; rw [if_neg q]
          rw [this, nat1] at key2; exact key2
        · rw [ite1] at q
          have : c0A s k = k + 2 := by unfold c0A; rw [if_pos q]
          rw [this, show ((k + 2 : Nat) : Int) = (k : Int) + 2 by omega] at key2; exact key2
      · rw [if_pos rfl]
        refine ⟨fun q => absurd rfl q, fun _ => ⟨irI (by omega) (by omega), ?_⟩⟩
        have := ih σ (by omega) hF ?_ ?_ ?_
        · rw [op_name hm]
          rw [show (k : Int) + -1 = (k : Int) - 1 by omega]
          exact this
        · intro v hv1 hv2
          obtain ⟨e, f1, f2, f3, f4, f5, f6⟩ := hw v hv1 (by rw [op_name hm]; exact hv2)
          refine ⟨e, f1, by omega, f3, f4, f5, fun x h1 h2 => ?_⟩
          rcases Nat.eq_or_lt_of_le h1 with y | y
          · subst y; exact Or.inr hm
          · exact f6 x y h2
        · intro p hp1 hp2 hp3
          rcases Nat.eq_or_lt_of_le hp1 with y | y
          · subst y; rw [hm] at hp3; cases hp3
          · exact ht p y hp2 hp3
        · rw [hc]; simp [ctA, cntA, hm]
  have : Ok (d + 4) 135 [vr 5 b] σ0 (fun v σ' => v = vu ∧ Fm (Clk b) σ0 σ' ∧ (∀ p : Nat, p < n → nmA s p = false → CTp n s b σ' p) ∧ σ' 5 b 10 = (ctA s n : Int) ∧ σ' 42 b 0 = -6) := G_ok rfl (b_135_0 (by
    rw [h6]
    have := key (fun v σ' => v = vu ∧ Fm (Clk b) σ0 σ' ∧ (∀ p : Nat, p < n → nmA s p = false → CTp n s b σ' p) ∧ σ' 5 b 10 = (ctA s n : Int) ∧ σ' 42 b 0 = -6) (fun σ' h1 h2 h3 h4 => ⟨rfl, h1, h2, h3, h4⟩) n σ0 (Nat.le_refl _) (Fm.rf σ0) (fun v hv1 hv2 => by rw [h.2.1] at hv2; omega) (fun p hp1 hp2 => by omega) (by rw [h10]; omega)
    rw [h.2.1] at this
    exact ⟨irI (by omega) (by omega), this⟩))
  obtain ⟨v, σ', h1, rfl, h2, h3, h4, h5⟩ := this
  exact ⟨σ', h1, h2, h3, h4, h5⟩
end CLINK
