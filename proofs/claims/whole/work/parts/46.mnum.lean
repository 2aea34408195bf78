theorem NuTo_facts {T : TP} {b : Int} {ps : Int → Int} {nu : Nat → Int} {ow : Int} {K : Nat} (h : NuTo T b ps nu ow K) : 0 ≤ ow ∧ ow ≤ K ∧ (∀ p, p < K → (nu p = -6 ∧ ¬ bxA T b p) ∨ (0 ≤ nu p ∧ nu p < 2 + ow ∧ bxA T b p ∧ (nu p = 0 ↔ reA T b ps p 40) ∧ (nu p = 1 → reA T b ps p 41 ∧ ¬ reA T b ps p 40) ∧ (reA T b ps p 41 → nu p = 0 ∨ nu p = 1))) ∧ (∀ r : Int, 2 ≤ r → r < 2 + ow → ∃ p, p < K ∧ nu p = r) := by
  obtain ⟨c, c0, c1, c2⟩ := h
  have key : ∀ k, k ≤ K → 0 ≤ c k ∧ c k ≤ k ∧ (∀ p, p < k → (nu p = -6 ∧ ¬ bxA T b p) ∨ (0 ≤ nu p ∧ nu p < 2 + c k ∧ bxA T b p ∧ (nu p = 0 ↔ reA T b ps p 40) ∧ (nu p = 1 → reA T b ps p 41 ∧ ¬ reA T b ps p 40) ∧ (reA T b ps p 41 → nu p = 0 ∨ nu p = 1))) ∧ (∀ r : Int, 2 ≤ r → r < 2 + c k → ∃ p, p < k ∧ nu p = r) := by
    intro k
    induction k with
    | zero => intro _; rw [c0]; exact ⟨by omega, by omega, fun p hp => by omega, fun r h1 h2 => by omega⟩
    | succ k ih =>
      intro hk
      obtain ⟨i1, i2, i3, i4⟩ := ih (by omega)
      obtain ⟨a1, a2, a3, a4⟩ := c2 k (by omega)
      have fin : ∀ (hc : (c (k + 1) = c k) ∨ (c (k + 1) = c k + 1 ∧ nu k = 2 + c k)) (hx : (nu k = -6 ∧ ¬ bxA T b k) ∨ (0 ≤ nu k ∧ nu k < 2 + c (k + 1) ∧ bxA T b k ∧ (nu k = 0 ↔ reA T b ps k 40) ∧ (nu k = 1 → reA T b ps k 41 ∧ ¬ reA T b ps k 40) ∧ (reA T b ps k 41 → nu k = 0 ∨ nu k = 1))), 0 ≤ c (k + 1) ∧ c (k + 1) ≤ ((k + 1 : Nat) : Int) ∧ (∀ p, p < k + 1 → (nu p = -6 ∧ ¬ bxA T b p) ∨ (0 ≤ nu p ∧ nu p < 2 + c (k + 1) ∧ bxA T b p ∧ (nu p = 0 ↔ reA T b ps p 40) ∧ (nu p = 1 → reA T b ps p 41 ∧ ¬ reA T b ps p 40) ∧ (reA T b ps p 41 → nu p = 0 ∨ nu p = 1))) ∧ (∀ r : Int, 2 ≤ r → r < 2 + c (k + 1) → ∃ p, p < k + 1 ∧ nu p = r) := by
        intro hc hx
        refine ⟨by omega, by omega, fun p hp => ?_, fun r h1 h2 => ?_⟩
        · rcases Nat.eq_or_lt_of_le (Nat.le_of_lt_succ hp) with w | w
          · subst w; exact hx
          · rcases i3 p w with y | ⟨y1, y2, y3⟩
            · exact Or.inl y
            · exact Or.inr ⟨y1, by omega, y3⟩
        · rcases hc with hc | ⟨hc, hc2⟩
          · obtain ⟨p, p1, p2⟩ := i4 r h1 (by omega)
            exact ⟨p, by omega, p2⟩
          · by_cases w : r = 2 + c k
            · exact ⟨k, by omega, by omega⟩
            · obtain ⟨p, p1, p2⟩ := i4 r h1 (by omega)
              exact ⟨p, by omega, p2⟩
      rcases em (bxA T b k) with x | x
      · rcases em (reA T b ps k 40) with y | y
        · obtain ⟨z1, z2⟩ := a2 x y
          exact fin (Or.inl z2) (Or.inr ⟨by omega, by omega, x, ⟨fun _ => y, fun _ => z1⟩, fun w => by omega, fun _ => Or.inl z1⟩)
        · rcases em (reA T b ps k 41) with z | z
          · obtain ⟨z1, z2⟩ := a3 x y z
            exact fin (Or.inl z2) (Or.inr ⟨by omega, by omega, x, ⟨fun w => by omega, fun w => absurd w y⟩, fun _ => ⟨z, y⟩, fun _ => Or.inr z1⟩)
          · rcases em (∃ r, r < k ∧ bxA T b r ∧ reA T b ps r k) with ⟨r, r1, r2, r3⟩ | w
            · obtain ⟨z1, z2⟩ := (a4 x y z).1 r r1 r2 r3
              rcases i3 r r1 with u | ⟨u1, u2, u3, u4, u5, u6⟩
              · exact absurd r2 u.2
              · have v0 : nu r ≠ 0 := fun v => y (ClA.tr (ClA.sy r3) (u4.mp v))
                have v1 : nu r ≠ 1 := fun v => z (ClA.tr (ClA.sy r3) (u5 v).1)
                exact fin (Or.inl z2) (Or.inr ⟨by omega, by omega, x, ⟨fun w => by omega, fun w => absurd w y⟩, fun w => by omega, fun w => absurd w z⟩)
            · obtain ⟨z1, z2⟩ := (a4 x y z).2 fun r r1 r2 r3 => w ⟨r, r1, r2, r3⟩
              exact fin (Or.inr ⟨z2, z1⟩) (Or.inr ⟨by omega, by omega, x, ⟨fun w => by omega, fun w => absurd w y⟩, fun w => by omega, fun w => absurd w z⟩)
      · obtain ⟨z1, z2⟩ := a1 x
        exact fin (Or.inl z2) (Or.inl ⟨z1, x⟩)
  obtain ⟨k1, k2, k3, k4⟩ := key _ (Nat.le_refl _)
  rw [← c1] at k1 k2 k3 k4
  exact ⟨k1, k2, k3, k4⟩

/-! ===== the model: numbers, homes, effects ===== -/
def nuM (σ : SS) : Int → Nat → Int := fun b p => σ 74 0 (40 * b + p)
def efM (σ : SS) : Int → Int := fun c => σ 77 0 c
section MNUM
variable {T : TP} {b : Int} {d : Nat} {σ : SS}
theorem nu_P (hT : TOKA T) (hW : welA T) (hb : isB b) {ps : Int → Int} {nu : Nat → Int} {ow : Int} (hO : NuOK T b ps nu ow) {p : Nat} (hp : p < tN T b) (h0 : nu p = 0) : tG T b = 1 := by
  have hn := (hT b hb).1
  rcases (NuOK_facts hO).2.2.1 p hp with z | ⟨z1, z2, z3, z4, z5, z6⟩
  · omega
  · by_cases q : tG T b = 1
    · exact q
    · have := re_P hT hW hb q (z4.mp h0); omega
theorem nu_R (hT : TOKA T) (hW : welA T) (hb : isB b) {ps : Int → Int} {nu : Nat → Int} {ow : Int} (hO : NuOK T b ps nu ow) {p : Nat} (hp : p < tN T b) (h0 : nu p = 1) : tV T b = 1 := by
  have hn := (hT b hb).1
  rcases (NuOK_facts hO).2.2.1 p hp with z | ⟨z1, z2, z3, z4, z5, z6⟩
  · omega
  · by_cases q : tV T b = 1
    · exact q
    · have := re_R hT hW hb q (z5 h0).1; omega
/-- what a part does, it does to what is there -/
theorem do_nu (hW : welA T) (hb : isB b) {nu : Nat → Int} {ef : Int → Int} {p : Nat} (hp : p < tN T b) {r : Int} {lk : Bool} (h : doB T b nu ef p r lk = true) : ∃ q, q < tN T b ∧ nu q = r := by
  have hg := (hW b hb).1
  have kid : nmA (tS T b) p = false → (kos (tS T b p) = 4 ∨ kos (tS T b p) = 9) → c0A (tS T b) p < tN T b := fun hm k => (kid1 hg hp hm (by rcases k with k | k <;> rw [k] <;> decide)).1
  cases lk
  · rw [do_f, Bool.and_eq_true] at h
    have hm : nmA (tS T b) p = false := by simpa using h.1
    have h2 := h.2
    by_cases q : kos (tS T b p) = 3
    · rw [if_pos q] at h2; exact ⟨p, hp, by simpa using h2⟩
    rw [if_neg q] at h2
    by_cases w : kos (tS T b p) = 9
    · rw [if_pos w] at h2
      rw [Bool.or_eq_true, Bool.and_eq_true, Bool.and_eq_true] at h2
      rcases h2 with ⟨_, v⟩ | ⟨_, v⟩
      · exact ⟨_, kid hm (Or.inr w), by simpa using v⟩
      · exact ⟨p, hp, by simpa using v⟩
    · rw [if_neg w] at h2; cases h2
  · rw [do_t, Bool.and_eq_true] at h
    have hm : nmA (tS T b) p = false := by simpa using h.1
    have h2 := h.2
    by_cases q : kos (tS T b p) = 4
    · rw [if_pos q] at h2; exact ⟨_, kid hm (Or.inl q), by simpa using h2⟩
    rw [if_neg q] at h2
    by_cases w : kos (tS T b p) = 9
    · rw [if_pos w] at h2
      rw [Bool.or_eq_true, Bool.and_eq_true, Bool.and_eq_true] at h2
      rcases h2 with ⟨_, v⟩ | ⟨_, v⟩
      · exact ⟨_, kid hm (Or.inr w), by simpa using v⟩
      · exact ⟨p, hp, by simpa using v⟩
    · rw [if_neg w] at h2; cases h2
theorem m_touch (hT : TOKA T) (hW : welA T) (hb : isB b) (hM : MW T σ) {p : Nat} (hp : p < tN T b) {r : Int} :
    Rn (d + 1) 64 [vr 62 0, vi (40 * b + p), vi r] σ (vi (if toB T b (nuM σ b) p r = true then 1 else 0)) σ := by
  have hn := (hT b hb).1
  have hg := (hW b hb).1
  have hb' := hb
  unfold isB at hb'
  have hrg : (0 : Int) ≤ 40 * b + p ∧ 40 * b + (p : Int) < 120 := by omega
  have e67 := ((hM.2 b hb) p hp).1
  have y1 : toA T b (nuM σ b) p r → G (d + 0) (fun v σ' => v = vi (if toB T b (nuM σ b) p r = true then 1 else 0) ∧ σ' = σ) 64 38 [vu, vu, vu, vu] [] σ := fun q => b_64x_38 (b_64x_41 ⟨Or.inr rfl, by rw [if_pos (toB_iff.mpr q)], rfl⟩)
  have y0 : ¬ toA T b (nuM σ b) p r → G (d + 0) (fun v σ' => v = vi (if toB T b (nuM σ b) p r = true then 1 else 0) ∧ σ' = σ) 64 40 [vu, vu, vu, vu] [] σ := fun q => b_64x_40 (b_64x_41 ⟨Or.inl rfl, by rw [if_neg (fun w => q (toB_iff.mp w))], rfl⟩)
  have fin : ∀ s0 : Int, (s0 ≠ 0 ↔ (nmA (tS T b) p = false ∧ (kos (tS T b p) = 4 ∨ kos (tS T b p) = 9))) → G (d + 0) (fun v σ' => v = vi (if toB T b (nuM σ b) p r = true then 1 else 0) ∧ σ' = σ) 64 15 [vr 62 0, vi (40 * b + (p : Int)), vi r, vu] [vi s0] σ := by
    intro s0 hs
    refine b_64x_15 ⟨hrg, ?_⟩
    rw [e67]
    cases hm : nmA (tS T b) p
    · have hk := kos_ge hg hp hm
      have ew : whA (tS T b) p = kos (tS T b p) := by unfold whA; rw [hm]; rfl
      rw [ew]
      rw [hm] at hs
      refine ⟨fun q => absurd q (by omega), fun _ => ⟨hrg, fun q => y1 ⟨hm, Or.inl q⟩, fun q => ⟨fun w => y0 fun z => ?_, fun w => ?_⟩⟩⟩
      · rcases z.2 with u | u
        · exact q u
        · exact absurd w (hs.mpr ⟨rfl, u.1⟩)
      · have hk := (hs.mp w).2
        have k1 := kid1 hg hp hm (by rcases hk with k | k <;> rw [k] <;> decide)
        have e68 := (m_at hT hb (hM.2 b hb) hp hm).2.2.1
        rw [e68]
        refine ⟨hrg, by omega, fun u => y0 fun z => ?_, fun u => y1 ⟨hm, Or.inr ⟨hk, u⟩⟩⟩
        rcases z.2 with v | v
        · exact q v
        · exact u v.2
    · have ew : whA (tS T b) p = -6 := by unfold whA; rw [if_pos hm]
      rw [ew]
      refine ⟨fun _ => y0 fun z => ?_, fun q => absurd q (by decide)⟩
      have := z.1; rw [hm] at this; cases this
  refine G_rn rfl (b_64x_0 ⟨hrg, ?_⟩)
  rw [e67]
  cases hm : nmA (tS T b) p
  · have ew : whA (tS T b) p = kos (tS T b p) := by unfold whA; rw [hm]; rfl
    rw [ew]
    rw [hm] at fin
    exact ⟨fun q => b_64x_12 (fin 1 ⟨fun _ => ⟨rfl, Or.inl q⟩, fun _ => by decide⟩), fun q => ⟨hrg, fun w => fin 0 ⟨fun z => absurd rfl z, fun z => by omega⟩, fun w => b_64x_12 (fin 1 ⟨fun _ => ⟨rfl, Or.inr w⟩, fun _ => by decide⟩)⟩⟩
  · have ew : whA (tS T b) p = -6 := by unfold whA; rw [if_pos hm]
    rw [ew]
    rw [hm] at fin
    exact ⟨fun q => absurd q (by decide), fun q => ⟨hrg, fun w => fin 0 ⟨fun z => absurd rfl z, fun z => by cases z.1⟩, fun w => absurd w (by decide)⟩⟩
theorem m_does (hT : TOKA T) (hW : welA T) (hb : isB b) (hM : MW T σ) (hE : ∀ c, isB c → 0 ≤ efM σ c) {p : Nat} (hp : p < tN T b) {r : Int} {lk : Bool} :
    Rn (d + 2) 66 [vr 62 0, vi (40 * b + p), vi r, vi (biA lk)] σ (vi (if doB T b (nuM σ b) (efM σ) p r lk = true then 1 else 0)) σ := by
  have hn := (hT b hb).1
  have hg := (hW b hb).1
  have hb' := hb
  unfold isB at hb'
  have hrg : (0 : Int) ≤ 40 * b + p ∧ 40 * b + (p : Int) < 120 := by omega
  have e67 := ((hM.2 b hb) p hp).1
  let PP : AV → SS → Prop := fun v σ' => v = vi (if doB T b (nuM σ b) (efM σ) p r lk = true then 1 else 0) ∧ σ' = σ
  have y1 : doB T b (nuM σ b) (efM σ) p r lk = true → ((1 : Int) = 0 ∨ (1 : Int) = 1) ∧ PP (vi 1) σ := fun q => ⟨Or.inr rfl, by rw [if_pos q], rfl⟩
  have y0 : doB T b (nuM σ b) (efM σ) p r lk = false → ((0 : Int) = 0 ∨ (0 : Int) = 1) ∧ PP (vi 0) σ := fun q => ⟨Or.inl rfl, by rw [q]; rfl, rfl⟩
  have enu : σ 74 0 (40 * b + (p : Int)) = nuM σ b p := rfl
  -- a call
  have call : nmA (tS T b) p = false → kos (tS T b p) = 9 → ((ir (40 * b + (p : Int) + 1) ∧ (0 ≤ 40 * b + (p : Int) + 1 ∧ 40 * b + (p : Int) + 1 < 120) ∧ ir (σ 66 0 (40 * b + (p : Int) + 1) - 48)) ∧ ((0 ≤ (σ 66 0 (40 * b + (p : Int) + 1) - 48) ∧ (σ 66 0 (40 * b + (p : Int) + 1) - 48) < 3) ∧ G (d + 1) PP 66 42 [vr 62 0, vi (40 * b + (p : Int)), vi r, vi (biA lk), vi (σ 77 0 (σ 66 0 (40 * b + (p : Int) + 1) - 48)), vu] [] σ)) := by
    intro hm h9
    have hof := of_B hg hp hm (kos_9.mp h9)
    have k1 := kid1 hg hp hm (by rw [h9]; decide)
    have e68 := (m_at hT hb (hM.2 b hb) hp hm).2.2.1
    have e66 : σ 66 0 (40 * b + (p : Int) + 1) = tS T b ((p : Int) + 1) := by
      rw [show (40 * b + (p : Int) + 1) = 40 * b + ((p : Int) + 1) by omega]
      exact (hM.1 b hb).2.2.2 _ (by omega) (by omega)
    have ho := hof.1
    have he := hE _ ho
    rw [e66, show tS T b ((p : Int) + 1) - 48 = ofA (tS T b) p from rfl, show σ 77 0 (ofA (tS T b) p) = efM σ (ofA (tS T b) p) from rfl]
    refine ⟨⟨irI (by omega) (by omega), by omega, by unfold isB at ho; exact irI (by omega) (by omega)⟩, ho, ?_⟩
    have enu0 : σ 74 0 (40 * b + (c0A (tS T b) p : Int)) = nuM σ b (c0A (tS T b) p) := rfl
    cases lk
    · have hd : doB T b (nuM σ b) (efM σ) p r false = ((btA (efM σ (ofA (tS T b) p)) 1 && decide (nuM σ b (c0A (tS T b) p) = r)) || (btA (efM σ (ofA (tS T b) p)) 4 && decide (nuM σ b p = r))) := by rw [do_f, if_neg (by omega), if_pos h9, hm]; rfl
      have st63 : ∀ x : Bool, x = (btA (efM σ (ofA (tS T b) p)) 1 && decide (nuM σ b (c0A (tS T b) p) = r)) → G (d + 1) PP 66 63 [vr 62 0, vi (40 * b + (p : Int)), vi r, vi (biA false), vi (efM σ (ofA (tS T b) p)), vi (biA x)] [] σ := by
        intro x hx
        rw [← hx] at hd
        cases x
        · rw [Bool.false_or] at hd
          refine b_66_63 ⟨fun q => absurd rfl q, fun _ => ⟨fun _ => ⟨⟨he, by decide⟩, fun q => y0 ?_, fun q => ⟨hrg, fun w => y0 ?_, fun w => y1 ?_⟩⟩, fun q => absurd rfl q⟩⟩
          · rw [hd]; unfold btA; rw [decide_eq_false (fun z => z q)]; rfl
          · rw [hd, decide_eq_false (show ¬ nuM σ b p = r from w), Bool.and_false]
          · rw [hd, decide_eq_true (show nuM σ b p = r from w), Bool.and_true]; unfold btA; exact decide_eq_true q
        · rw [Bool.true_or] at hd
          exact b_66_63 ⟨fun _ => y1 hd, fun q => absurd q (by decide)⟩
      refine b_66_42 ⟨fun _ => ⟨⟨he, by decide⟩, fun q => st63 false ?_, fun q => ⟨hrg, ?_⟩⟩, fun q => absurd rfl q⟩
      · unfold btA; rw [decide_eq_false (fun z => z q)]; rfl
      · rw [e68, enu0]
        refine ⟨by omega, fun w => st63 false ?_, fun w => st63 true ?_⟩
        · rw [decide_eq_false w, Bool.and_false]
        · rw [decide_eq_true w, Bool.and_true]; unfold btA; exact (decide_eq_true q).symm
    · have hd : doB T b (nuM σ b) (efM σ) p r true = ((btA (efM σ (ofA (tS T b) p)) 2 && decide (nuM σ b (c0A (tS T b) p) = r)) || (btA (efM σ (ofA (tS T b) p)) 8 && decide (nuM σ b p = r))) := by rw [do_t, if_neg (by omega), if_pos h9, hm]; rfl
      have st63 : ∀ x : Bool, x = (btA (efM σ (ofA (tS T b) p)) 2 && decide (nuM σ b (c0A (tS T b) p) = r)) → G (d + 1) PP 66 63 [vr 62 0, vi (40 * b + (p : Int)), vi r, vi (biA true), vi (efM σ (ofA (tS T b) p)), vi (biA x)] [] σ := by
        intro x hx
        rw [← hx] at hd
        cases x
        · rw [Bool.false_or] at hd
          refine b_66_63 ⟨fun q => absurd rfl q, fun _ => ⟨fun q => absurd q (by decide), fun _ => ⟨⟨he, by decide⟩, fun q => y0 ?_, fun q => ⟨hrg, fun w => y0 ?_, fun w => y1 ?_⟩⟩⟩⟩
          · rw [hd]; unfold btA; rw [decide_eq_false (fun z => z q)]; rfl
          · rw [hd, decide_eq_false (show ¬ nuM σ b p = r from w), Bool.and_false]
          · rw [hd, decide_eq_true (show nuM σ b p = r from w), Bool.and_true]; unfold btA; exact decide_eq_true q
        · rw [Bool.true_or] at hd
          exact b_66_63 ⟨fun _ => y1 hd, fun q => absurd q (by decide)⟩
      refine b_66_42 ⟨fun q => absurd q (by decide), fun _ => ⟨⟨he, by decide⟩, fun q => st63 false ?_, fun q => ⟨hrg, ?_⟩⟩⟩
      · unfold btA; rw [decide_eq_false (fun z => z q)]; rfl
      · rw [e68, enu0]
        refine ⟨by omega, fun w => st63 false ?_, fun w => st63 true ?_⟩
        · rw [decide_eq_false w, Bool.and_false]
        · rw [decide_eq_true w, Bool.and_true]; unfold btA; exact (decide_eq_true q).symm
  refine G_rn rfl (b_66_0 ⟨hrg, ?_⟩)
  rw [e67]
  cases hm : nmA (tS T b) p
  · have ew : whA (tS T b) p = kos (tS T b p) := by unfold whA; rw [hm]; rfl
    rw [ew]
    have call := call hm
    have e68 := (m_at hT hb (hM.2 b hb) hp hm).2.2.1
    cases lk
    · refine ⟨fun _ => ⟨fun h3 => ⟨hrg, fun h9 => call h9, fun h9 => y0 ?_⟩, fun h3 => ⟨fun _ => ⟨hrg, fun w => y0 ?_, fun w => y1 ?_⟩, fun q => absurd rfl q⟩⟩, fun q => absurd rfl q⟩
      · rw [do_f, if_neg h3, if_neg h9, Bool.and_false]
      · rw [do_f, if_pos h3, decide_eq_false (show ¬ nuM σ b p = r from w), Bool.and_false]
      · rw [do_f, if_pos h3, decide_eq_true (show nuM σ b p = r from w), hm]; rfl
    · refine ⟨fun q => absurd q (by decide), fun _ => ⟨fun h4 => ⟨hrg, fun h9 => call h9, fun h9 => y0 ?_⟩, fun h4 => ⟨fun q => absurd q (by decide), fun _ => ⟨hrg, ?_⟩⟩⟩⟩
      · rw [do_t, if_neg h4, if_neg h9, Bool.and_false]
      · have k1 := kid1 hg hp hm (by rw [h4]; decide)
        rw [e68]
        refine ⟨by omega, fun w => y0 ?_, fun w => y1 ?_⟩
        · rw [do_t, if_pos h4, decide_eq_false (show ¬ nuM σ b (c0A (tS T b) p) = r from w), Bool.and_false]
        · rw [do_t, if_pos h4, decide_eq_true (show nuM σ b (c0A (tS T b) p) = r from w), hm]; rfl
  · have ew : whA (tS T b) p = -6 := by unfold whA; rw [if_pos hm]
    rw [ew]
    have hd : doB T b (nuM σ b) (efM σ) p r lk = false := by unfold doB; rw [hm]; rfl
    refine ⟨fun _ => ⟨fun _ => ⟨hrg, fun q => absurd q (by decide), fun _ => y0 hd⟩, fun q => absurd q (by decide)⟩, fun _ => ⟨fun _ => ⟨hrg, fun q => absurd q (by decide), fun _ => y0 hd⟩, fun q => absurd q (by decide)⟩⟩
end MNUM
