theorem irI {x : Int} (h1 : -1000000000 ≤ x) (h2 : x ≤ 1000000000) : ir x := by unfold ir; omega
theorem mu_part {s : Int → Int} {k : Nat} (h : nmA s k = false) : muA s (k + 1) = if s k = 108 then 1 else if s k = 64 then 2 else 0 := by
  unfold muA
  rw [show (((k + 1 : Nat) : Int) - 1) = (k : Int) by omega]
  by_cases h1 : s k = 108
  · rw [if_pos ((nm_next h).mpr (Or.inl h1)), if_pos h1, if_pos h1]
  · by_cases h2 : s k = 64
    · rw [if_pos ((nm_next h).mpr (Or.inr h2)), if_neg h1, if_neg h1, if_pos h2]
    · rw [if_neg (fun q => by rcases (nm_next h).mp q with q | q <;> contradiction), if_neg h1, if_neg h2]
theorem mu_name {s : Int → Int} {k : Nat} (h : nmA s k = true) : muA s (k + 1) = 0 := by
  unfold muA
  rw [if_neg]
  rw [nm_after h]; decide
theorem mu_pos {s : Int → Int} {k : Nat} : (0 < muA s k ↔ nmA s k = true) ∧ 0 ≤ muA s k := by
  unfold muA
  cases h : nmA s k
  · simp
  · simp only [if_true, true_iff, iff_true]
    split <;> omega
theorem mu_one {s : Int → Int} {k : Nat} (h : nmA s k = true) : (muA s k = 1 ↔ s ((k : Int) - 1) = 108) := by
  unfold muA
  rw [if_pos h]
  split
  · rename_i q; simp [q]
  · rename_i q; simp [q]
theorem nat1 {k : Nat} : ((k + 1 : Nat) : Int) = (k : Int) + 1 := by omega
theorem nmf_l {s n : Int} (h : s = 108) : nmf s n = if 97 ≤ n ∧ n ≤ 100 then 1 else 0 := by unfold nmf; simp only [if_pos h]
theorem nmf_c {s n : Int} (h : s ≠ 108) : nmf s n = if 48 ≤ n ∧ n ≤ 50 then 1 else 0 := by unfold nmf; simp only [if_neg h]
section READ
variable {T : TP} {b : Int} {d : Nat}
/-- the first loop of read -/
theorem rd_1 (hT : TOKA T) (hb : isB b) {σ0 : SS} (hM : MTx T σ0) {P : AV → SS → Prop}
    (hP : ∀ f σ, Fm (Crd b) σ0 σ → IsFA (tN T b) (tS T b) f → f ≠ -6 → P (vi f) σ)
    (hG : ∀ σ, Fm (Crd b) σ0 σ → GoodA (tN T b) (tS T b) → (∀ p : Nat, p < tN T b → σ 67 0 (40 * b + p) = whA (tS T b) p) → G (d + 2) P 51 103 [vr 62 0, vi b, vu, vu, vi ((tN T b : Int) - 1), vu, vu, vu, vu] [] σ) :
    ∀ (m k : Nat) (σ : SS), k + m = tN T b → Fm (Crd b) σ0 σ → (∀ j, j < k → ¬ badA (tS T b) j) → (∀ p : Nat, p < k → σ 67 0 (40 * b + p) = whA (tS T b) p) →
      G (d + 2) P 51 6 [vr 62 0, vi b, vi (opA (tS T b) k), vi (muA (tS T b) k), vi (k : Int), vu, vu, vu, vu] [] σ := by
  have hb' := hb
  unfold isB at hb'
  have hn := (hT b hb).1
  obtain ⟨m1, -, -, m4⟩ := hM b hb
  generalize hs : tS T b = s at *
  generalize hnn : tN T b = n at *
  intro m
  induction m with
  | zero =>
    intro k σ hk hF hbad hw
    obtain rfl : k = n := by omega
    have e65 : σ 65 0 b = (k : Int) := (hF 65 0 b (by unfold Crd; omega)).trans m1
    have hmu := @mu_pos s k
    refine b_51_6 ⟨hb, fun _ => ⟨fun h2 => ⟨hb, ?_⟩, fun h2 => ⟨fun h3 => ⟨hb, ?_, ?_⟩, fun h3 => ⟨hb, ?_⟩⟩⟩, fun h1 => absurd h1 (by omega)⟩
    · rw [e65]; exact hP _ σ hF (Or.inr (Or.inl ⟨rfl, hbad, Or.inl (by omega)⟩)) (by omega)
    · rw [e65]; exact irI (by omega) (by omega)
    · rw [e65]
      have := (op_pos hbad k (Nat.le_refl _)).1
      refine hG σ hF ⟨hbad, by omega, ?_⟩ hw
      cases h4 : nmA s k
      · rfl
      · have := hmu.1.mpr h4; omega
    · rw [e65]; exact hP _ σ hF (Or.inr (Or.inl ⟨rfl, hbad, Or.inr (hmu.1.mp h3)⟩)) (by omega)
  | succ m ih =>
    intro k σ hk hF hbad hw
    have hkn : k < n := by omega
    have e65 : σ 65 0 b = (n : Int) := (hF 65 0 b (by unfold Crd; omega)).trans m1
    have e66 : σ 66 0 (40 * b + (k : Int)) = s k := (hF 66 0 _ (by unfold Crd; omega)).trans (m4 k (by omega) (by omega))
    have hmu := @mu_pos s k
    have hop := (op_pos (n := k) hbad k (Nat.le_refl _)).1
    have hrg : (0 : Int) ≤ 40 * b + k ∧ 40 * b + (k : Int) < 120 := by omega
    have hC : Crd b 67 0 (40 * b + k) := by unfold Crd; omega
    have hin := inn_rng (kos (s k))
    have hopb : opA s k ≤ 1 + 3 * k := by
      clear hk hF hw e65 e66 hmu hop hrg hC hin ih hkn
      induction k with
      | zero => simp [opA]
      | succ j ihj =>
        have i := ihj (fun x hx => hbad x (by omega))
        have := inn_rng (kos (s j))
        cases h : nmA s j
        · rw [op_step h]; omega
        · rw [op_name h]; omega
    refine b_51_6 ⟨hb, fun h1 => absurd h1 (by omega), fun _ => ?_⟩
    simp only [e66]
    refine ⟨irI (by omega) (by omega), irI (by omega) (by omega), hrg, hrg, ?_⟩
    intro σ1 e1
    have hF1 : Fm (Crd b) σ0 σ1 := by rw [e1]; exact hF.up hC
    have hw1 : ∀ p : Nat, p < k → σ1 67 0 (40 * b + p) = whA s p := fun p hp => by
      rw [e1, up_ne (by omega)]; exact hw p hp
    have hbk : badA s k → P (vi (k : Int)) σ1 := fun q => hP _ σ1 hF1 (Or.inr (Or.inr ⟨k, hkn, rfl, q, hbad⟩)) (by omega)
    have hnext : ¬ badA s k → ∀ j, j < k + 1 → ¬ badA s j := fun q j hj => by
      rcases Nat.eq_or_lt_of_le (Nat.le_of_lt_succ hj) with x | x
      · subst x; exact q
      · exact hbad j x
    have name : nmA s k = true → nmf (s ((k : Int) - 1)) (s k) ≠ 0 → opA s k ≠ 0 → G (d + 2) P 51 6 [vr 62 0, vi b, vi (opA s k), vi 0, vi ((k : Int) + 1), vu, vu, vu, vu] [] σ1 := by
      intro q1 q2 q3
      have nb : ¬ badA s k := by
        rintro (x | x | x)
        · exact q3 x
        · exact q2 x.2
        · rw [q1] at x; cases x.1
      have := ih (k + 1) σ1 (by omega) hF1 (hnext nb) (fun p hp => by
        rcases Nat.eq_or_lt_of_le (Nat.le_of_lt_succ hp) with x | x
        · subst x; rw [e1, up_eq ⟨rfl, rfl, rfl⟩]; unfold whA; rw [if_pos q1]
        · exact hw1 p x)
      rw [op_name q1, mu_name q1, nat1] at this
      exact this
    refine ⟨fun ho => ⟨fun hu => ⟨fun hk0 => ⟨hrg, ?_⟩, fun hk0 => ?_⟩, fun hu => ⟨fun h1 => ⟨fun h2 => ⟨irI (by omega) (by omega), ?_⟩, fun h2 => ?_⟩, fun h1 => ⟨fun h2 => ⟨irI (by omega) (by omega), ?_⟩, fun h2 => ?_⟩⟩⟩, fun ho => hbk (Or.inl ho)⟩
    · have hm : nmA s k = false := by
        cases h4 : nmA s k
        · rfl
        · have := hmu.1.mpr h4; omega
      have nb : ¬ badA s k := by
        rintro (x | x | x)
        · exact ho x
        · rw [hm] at x; cases x.1
        · omega
      intro σ2 e2
      have := ih (k + 1) σ2 (by omega) (by rw [e2]; exact hF1.up hC) (hnext nb) (fun p hp => by
        rcases Nat.eq_or_lt_of_le (Nat.le_of_lt_succ hp) with x | x
        · subst x; rw [e2, up_eq ⟨rfl, rfl, rfl⟩]; unfold whA; rw [hm]; rfl
        · rw [e2, up_ne (by omega)]; exact hw1 p x)
      rw [op_step hm, mu_part hm, nat1, show opA s k + inn (kos (s k)) - 1 = opA s k + (inn (kos (s k)) - 1) by omega] at this
      have hna := kos_nam (s k)
      refine ⟨fun h8 => ⟨fun h9 => ⟨irI (by omega) (by omega), irI (by omega) (by omega), irI (by omega) (by omega), ?_⟩, fun h9 => ⟨irI (by omega) (by omega), irI (by omega) (by omega), irI (by omega) (by omega), ?_⟩⟩, fun h8 => ⟨irI (by omega) (by omega), irI (by omega) (by omega), irI (by omega) (by omega), ?_⟩⟩
      · rw [if_neg (by omega), if_neg (by omega)] at this; exact this
      · rw [if_neg (by omega), if_pos (by omega)] at this; exact this
      · rw [if_pos (by omega)] at this; exact this
    · have hm : nmA s k = false := by
        cases h4 : nmA s k
        · rfl
        · have := hmu.1.mpr h4; omega
      exact hbk (Or.inr (Or.inr ⟨hm, hk0⟩))
    · have hm := hmu.1.mp hu
      refine name hm ?_ ho
      have h108 : s ((k : Int) - 1) ≠ 108 := fun q => h1 ((mu_one hm).mpr q)
      rw [nmf_c h108]
      rw [ite1] at h2
      rw [if_pos h2]; decide
    · have hm := hmu.1.mp hu
      have h108 : s ((k : Int) - 1) ≠ 108 := fun q => h1 ((mu_one hm).mpr q)
      refine hbk (Or.inr (Or.inl ⟨hm, ?_⟩))
      rw [nmf_c h108]
      rw [ite0] at h2
      rw [if_neg h2]
    · have hm := hmu.1.mp hu
      refine name hm ?_ ho
      have h108 : s ((k : Int) - 1) = 108 := (mu_one hm).mp h1
      rw [nmf_l h108]
      rw [ite1] at h2
      rw [if_pos h2]; decide
    · have hm := hmu.1.mp hu
      have h108 : s ((k : Int) - 1) = 108 := (mu_one hm).mp h1
      refine hbk (Or.inr (Or.inl ⟨hm, ?_⟩))
      rw [nmf_l h108]
      rw [ite0] at h2
      rw [if_neg h2]
theorem MTp.keep {n : Nat} {s : Int → Int} {σ σ' : SS} {p k : Nat} {C : Nat → Int → Int → Prop} (h : MTp n s b σ p) (hF : Fm C σ σ') (hc : ∀ t i j, C t i j → j = 40 * b + (k : Int)) (hne : p ≠ k) : MTp n s b σ' p := by
  have e : ∀ t : Nat, σ' t 0 (40 * b + p) = σ t 0 (40 * b + p) := fun t => hF _ _ _ fun x => by have := hc _ _ _ x; omega
  unfold MTp
  rw [e 68, e 69, e 70, e 71]
  exact h
/-- the second loop of read -/
theorem rd_2 (hT : TOKA T) (hb : isB b) (hg : GoodA (tN T b) (tS T b)) {σ0 : SS} {P : AV → SS → Prop}
    (hP : ∀ σ, Fm (Crd b) σ0 σ → MTr T b σ → P (vi (-6)) σ) :
    ∀ (k : Nat) (σ : SS), k ≤ tN T b → Fm (Crd b) σ0 σ → (∀ p : Nat, p < tN T b → σ 67 0 (40 * b + p) = whA (tS T b) p) → (∀ p : Nat, k ≤ p → p < tN T b → nmA (tS T b) p = false → MTp (tN T b) (tS T b) b σ p) →
      G (d + 2) P 51 103 [vr 62 0, vi b, vu, vu, vi ((k : Int) - 1), vu, vu, vu, vu] [] σ := by
  have hb' := hb
  unfold isB at hb'
  have hn := (hT b hb).1
  have hMTr : ∀ σ, MTr T b σ = (∀ p : Nat, p < tN T b → σ 67 0 (40 * b + p) = whA (tS T b) p ∧ (nmA (tS T b) p = false → MTp (tN T b) (tS T b) b σ p)) := fun σ => rfl
  simp only [hMTr] at hP
  clear hMTr
  generalize hs : tS T b = s at *
  generalize hnn : tN T b = n at *
  intro k
  induction k with
  | zero =>
    intro σ hk hF hw ht
    exact b_51_103 ⟨fun _ => hP σ hF fun p hp => ⟨hw p hp, fun hm => ht p (by omega) hp hm⟩, fun h => absurd h (by omega)⟩
  | succ k ih =>
    intro σ hk hF hw ht
    have hkn : k < n := by omega
    rw [show ((k + 1 : Nat) : Int) - 1 = (k : Int) by omega]
    have hwk := hw k hkn
    have hrg : (0 : Int) ≤ 40 * b + k ∧ 40 * b + (k : Int) < 120 := by omega
    have back : ∀ σ', Fm (Crd b) σ0 σ' → (∀ p : Nat, p < n → σ' 67 0 (40 * b + p) = whA s p) → (∀ p : Nat, k ≤ p → p < n → nmA s p = false → MTp n s b σ' p) → G (d + 2) P 51 182 [vr 62 0, vi b, vu, vu, vi (k : Int), vu, vu, vu, vu] [] σ' := fun σ' g1 g2 g3 => by
      have := ih σ' (by omega) g1 g2 g3
      refine b_51_182 ⟨irI (by omega) (by omega), ?_⟩
      rw [show (k : Int) + -1 = (k : Int) - 1 by omega]
      exact this
    refine b_51_103 ⟨fun h => absurd h (by omega), fun _ => ⟨irI (by omega) (by omega), irI (by omega) (by omega), hrg, ?_⟩⟩
    simp only [hwk]
    cases hm : nmA s k
    · -- a part
      have hwp : whA s k = kos (s k) := by unfold whA; rw [hm]; rfl
      rw [hwp]
      have hk0 : 0 ≤ kos (s k) := by
        rcases (show kos (s k) < 0 ∨ 0 ≤ kos (s k) by omega) with q | q
        · exact absurd (Or.inr (Or.inr ⟨hm, q⟩)) (hg.1 k hkn)
        · exact q
      have c0 := c0_spec hg hkn hm
      have hi := inn_rng (kos (s k))
      have key : G (d + 2) P 51 135 [vr 62 0, vi b, vu, vu, vi (k : Int), vi (40 * b + (k : Int)), vu, vi (inn (kos (s k))), vi (40 * b + (c0A s k : Int))] [] σ := by
        refine b_51_135 ⟨hrg, ?_⟩
        intro σ1 e1
        let x1 : Nat := if 0 < inn (kos (s k)) then c1A n s k else c0A s k
        let x2 : Nat := if 1 < inn (kos (s k)) then c2A n s k else x1
        have en : ∀ (σ' : SS) (p : Nat), (∀ t i j, ¬ (j = 40 * b + (k : Int)) → σ' t i j = σ t i j) → k + 1 ≤ p → p < n → nmA s p = false → σ' 71 0 (40 * b + p) = 40 * b + enA n s p := fun σ' p h1 h2 h3 h4 => by
          rw [h1 _ _ _ (by omega)]; exact (ht p h2 h3 h4).2.2.2
        have k1 : 0 < inn (kos (s k)) → c0A s k < n ∧ nmA s (c0A s k) = false := fun q => ⟨(kid1 hg hkn hm (by omega)).1, c0.2.2.1⟩
        have k2 : 1 < inn (kos (s k)) → c1A n s k < n ∧ nmA s (c1A n s k) = false ∧ c0A s k < c1A n s k := fun q => ⟨(kid2 hg hkn hm (by omega)).1, (kid1 hg hkn hm (by omega)).2.2.2.2.1, (kid1 hg hkn hm (by omega)).2.1⟩
        have k3 : 2 < inn (kos (s k)) → c2A n s k < n ∧ nmA s (c2A n s k) = false ∧ c1A n s k < c2A n s k ∧ enA n s k = enA n s (c2A n s k) := fun q => ⟨(kids3 hg hkn hm (by omega)).1, (kid2 hg hkn hm (by omega)).2.2.2.2.1, (kid2 hg hkn hm (by omega)).2.1, (kids3 hg hkn hm (by omega)).2⟩
        have step3 : ∀ σ3, Fm (fun t i j => (t = 68 ∨ t = 69 ∨ t = 70) ∧ j = 40 * b + (k : Int)) σ σ3 → σ3 68 0 (40 * b + k) = 40 * b + c0A s k → σ3 69 0 (40 * b + k) = 40 * b + x1 → σ3 70 0 (40 * b + k) = 40 * b + x2 → (2 ≥ inn (kos (s k)) → ∀ σ4, σ4 = up σ3 71 0 (40 * b + k) (40 * b + x2) → G (d + 2) P 51 182 [vr 62 0, vi b, vu, vu, vi (k : Int), vu, vu, vu, vu] [] σ4) ∧ (2 < inn (kos (s k)) → ∀ σ4, σ4 = up σ3 71 0 (40 * b + k) (40 * b + enA n s (c2A n s k)) → G (d + 2) P 51 182 [vr 62 0, vi b, vu, vu, vi (k : Int), vu, vu, vu, vu] [] σ4) := by
          intro σ3 f1 f2 f3 f4
          have fin : ∀ σ4, σ4 = up σ3 71 0 (40 * b + k) (40 * b + enA n s k) → G (d + 2) P 51 182 [vr 62 0, vi b, vu, vu, vi (k : Int), vu, vu, vu, vu] [] σ4 := by
            intro σ4 e4
            have hF4 : Fm (fun t i j => (68 ≤ t ∧ t ≤ 71) ∧ j = 40 * b + (k : Int)) σ σ4 := by
              rw [e4]
              exact (f1.mono fun t i j h => ⟨by omega, h.2⟩).up ⟨by omega, rfl⟩
            refine back σ4 (hF.tr (hF4.mono fun t i j h => by unfold Crd; omega)) (fun p hp => ?_) (fun p hp1 hp2 hp3 => ?_)
            · rw [hF4 _ _ _ (by omega)]; exact hw p hp
            · rcases Nat.eq_or_lt_of_le hp1 with x | x
              · subst x
                refine ⟨?_, fun q => ?_, fun q => ?_, ?_⟩
                · rw [e4, up_ne (by omega)]; exact f2
                · rw [e4, up_ne (by omega), f3]
                  show _ = 40 * b + ((c1A n s k : Nat) : Int)
                  simp only [x1]; rw [if_pos (by omega)]
                · rw [e4, up_ne (by omega), f4]
                  simp only [x2]; rw [if_pos (by omega)]
                · rw [e4, up_eq ⟨rfl, rfl, rfl⟩]
              · exact (ht p (by omega) hp2 hp3).keep hF4 (fun t i j h => h.2) (by omega)
          refine ⟨fun q σ4 e4 => fin σ4 ?_, fun q σ4 e4 => fin σ4 ?_⟩
          · rw [e4]
            have : x2 = enA n s k := by
              have h4 : inn (kos (s k)) = 0 ∨ inn (kos (s k)) = 1 ∨ inn (kos (s k)) = 2 := by omega
              simp only [x2, x1]
              rcases h4 with h4 | h4 | h4 <;> rw [h4]
              · rw [if_neg (by decide), if_neg (by decide)]; exact (kids0 hg hkn hm h4).1.symm
              · rw [if_neg (by decide), if_pos (by decide)]; exact (kids1 hg hkn hm h4).symm
              · rw [if_pos (by decide)]; exact (kids2 hg hkn hm h4).symm
            rw [this]
          · rw [e4, (k3 q).2.2.2]
        have hC1 : Fm (fun t i j => (t = 68 ∨ t = 69 ∨ t = 70) ∧ j = 40 * b + (k : Int)) σ σ1 := by
          rw [e1]; exact (Fm.rf σ).up ⟨by omega, rfl⟩
        have step2 : ∀ σ2, σ2 = up σ1 69 0 (40 * b + k) (40 * b + x1) → ∀ σ3, σ3 = up σ2 70 0 (40 * b + k) (40 * b + x2) → Fm (fun t i j => (t = 68 ∨ t = 69 ∨ t = 70) ∧ j = 40 * b + (k : Int)) σ σ2 ∧ G (d + 2) P 51 164 [vr 62 0, vi b, vu, vu, vi (k : Int), vi (40 * b + (k : Int)), vu, vi (inn (kos (s k))), vi (40 * b + (x2 : Int))] [] σ2 := by
          intro σ2 e2 σ3 e3
          have hC2 : Fm (fun t i j => (t = 68 ∨ t = 69 ∨ t = 70) ∧ j = 40 * b + (k : Int)) σ σ2 := by rw [e2]; exact hC1.up ⟨by omega, rfl⟩
          have hC3 : Fm (fun t i j => (t = 68 ∨ t = 69 ∨ t = 70) ∧ j = 40 * b + (k : Int)) σ σ3 := by rw [e3]; exact hC2.up ⟨by omega, rfl⟩
          refine ⟨hC2, b_51_164 ⟨hrg, ?_⟩⟩
          intro σ3' e3'
          obtain rfl : σ3' = σ3 := by rw [e3', e3]
          have s3 := step3 σ3' hC3 (by rw [e3, up_ne (by omega), e2, up_ne (by omega), e1, up_eq ⟨rfl, rfl, rfl⟩]) (by rw [e3, up_ne (by omega), e2, up_eq ⟨rfl, rfl, rfl⟩]) (by rw [e3, up_eq ⟨rfl, rfl, rfl⟩])
          refine ⟨fun q => ⟨hrg, s3.1 q⟩, fun q => ?_⟩
          have hx2 : x2 = c2A n s k := by simp only [x2]; rw [if_pos (by omega)]
          obtain ⟨y1, y2, y3, y4⟩ := k3 q
          obtain ⟨z1, z2, z3⟩ := k2 (by omega)
          have hr : σ3' 71 0 (40 * b + (x2 : Int)) = 40 * b + enA n s (c2A n s k) := by
            rw [hx2]; exact en σ3' _ (fun t i j h => hC3 t i j (fun w => h w.2)) (by omega) y1 y2
          rw [hr]
          exact ⟨by omega, hrg, s3.2 q⟩
        have step1 : G (d + 2) P 51 149 [vr 62 0, vi b, vu, vu, vi (k : Int), vi (40 * b + (k : Int)), vu, vi (inn (kos (s k))), vi (40 * b + (x1 : Int))] [] σ1 := by
          refine b_51_149 ⟨hrg, ?_⟩
          intro σ2 e2
          obtain ⟨hC2, s2⟩ := step2 σ2 e2 _ rfl
          refine ⟨fun q => ?_, fun q => ?_⟩
          · have : x2 = x1 := by simp only [x2]; rw [if_neg (by omega)]
            rw [this] at s2; exact s2
          · have hx1 : x1 = c1A n s k := by simp only [x1]; rw [if_pos (by omega)]
            have hx2 : x2 = c2A n s k := by simp only [x2]; rw [if_pos (by omega)]
            obtain ⟨z1, z2, z3⟩ := k2 q
            have hr : σ2 71 0 (40 * b + (x1 : Int)) = 40 * b + c2A n s k := by
              rw [hx1]; exact en σ2 _ (fun t i j h => hC2 t i j (fun w => h w.2)) (by omega) z1 z2
            rw [hr]
            rw [hx2] at s2
            exact ⟨by omega, s2⟩
        refine ⟨fun q => ?_, fun q => ?_⟩
        · have : x1 = c0A s k := by simp only [x1]; rw [if_neg (by omega)]
          rw [this] at step1; exact step1
        · have hx1 : x1 = c1A n s k := by simp only [x1]; rw [if_pos (by omega)]
          obtain ⟨z1, z2⟩ := k1 q
          have hr : σ1 71 0 (40 * b + (c0A s k : Int)) = 40 * b + c1A n s k := en σ1 _ (fun t i j h => hC1 t i j (fun w => h w.2)) (by omega) z1 z2
          rw [hr]
          rw [hx1] at step1
          exact ⟨by omega, step1⟩
      have hna := kos_nam (s k)
      refine ⟨fun q => absurd q (by omega), fun _ => ⟨fun h8 => ⟨irI (by omega) (by omega), ?_⟩, fun h8 => ⟨fun h9 => ⟨irI (by omega) (by omega), ?_⟩, fun h9 => ⟨irI (by omega) (by omega), ?_⟩⟩⟩⟩
      · have : c0A s k = k + 2 := by unfold c0A; rw [if_pos (by omega)]
        rw [this, show (40 * b + ((k + 2 : Nat) : Int)) = 40 * b + k + 2 by omega] at key; exact key
      · have : c0A s k = k + 1 := by unfold c0A; rw [if_neg (by omega)]
        rw [this, show (40 * b + ((k + 1 : Nat) : Int)) = 40 * b + k + 1 by omega] at key; exact key
      · have : c0A s k = k + 2 := by unfold c0A; rw [if_pos (by omega)]
        rw [this, show (40 * b + ((k + 2 : Nat) : Int)) = 40 * b + k + 2 by omega] at key; exact key
    · -- a name
      have hwp : whA s k = -6 := by unfold whA; rw [if_pos hm]
      rw [hwp]
      refine ⟨fun _ => back σ hF hw (fun p hp1 hp2 hp3 => ?_), fun q => absurd q (by decide)⟩
      rcases Nat.eq_or_lt_of_le hp1 with x | x
      · subst x; rw [hm] at hp3; cases hp3
      · exact ht p x hp2 hp3
/-- read: the fault; and, where there is none, the tree -/
theorem m_read (hT : TOKA T) (hb : isB b) {σ : SS} (hM : MTx T σ) : ∃ (f : Int) (σ' : SS), Rn (d + 3) 51 [vr 62 0, vi b] σ (vi f) σ' ∧ IsFA (tN T b) (tS T b) f ∧ Fm (Crd b) σ σ' ∧ (f = -6 → MTr T b σ') := by
  have h : Ok (d + 3) 51 [vr 62 0, vi b] σ (fun v σ' => ∃ f, v = vi f ∧ IsFA (tN T b) (tS T b) f ∧ Fm (Crd b) σ σ' ∧ (f = -6 → MTr T b σ')) := by
    refine G_ok rfl (b_51_0 ?_)
    refine rd_1 hT hb hM (fun f σ1 h1 h2 h3 => ⟨f, rfl, h2, h1, fun q => absurd q h3⟩) (fun σ1 h1 h2 h3 => ?_) (tN T b) 0 σ (by omega) (Fm.rf σ) (fun j hj => by omega) (fun p hp => by omega)
    exact rd_2 hT hb h2 (fun σ2 g1 g2 => ⟨-6, rfl, Or.inl ⟨rfl, h2⟩, g1, fun _ => g2⟩) (tN T b) σ1 (Nat.le_refl _) h1 h3 (fun p hp1 hp2 => by omega)
  obtain ⟨v, σ', h1, f, rfl, h2, h3, h4⟩ := h
  exact ⟨f, σ', h1, h2, h3, h4⟩
end READ
