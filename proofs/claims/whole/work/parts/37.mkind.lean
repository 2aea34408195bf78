/-! ===== kinds, ill parts: the model ===== -/
theorem Good_of {n : Nat} {s : Int → Int} {f : Int} (h : IsFA n s f) : (f = -6 ↔ GoodA n s) ∧ (f < 0 ↔ f = -6) := by
  rcases h with ⟨a, b⟩ | ⟨a, b, c⟩ | ⟨k, a, b, c, d⟩
  · exact ⟨⟨fun _ => b, fun _ => a⟩, by omega⟩
  · refine ⟨⟨fun q => by omega, fun q => ?_⟩, by omega⟩
    rcases c with c | c
    · exact absurd q.2.1 c
    · rw [q.2.2] at c; cases c
  · exact ⟨⟨fun q => by omega, fun q => absurd c (q.1 k a)⟩, by omega⟩
theorem frst_rng (f : Nat → Bool) : ∀ m k : Nat, frstA f m k = -6 ∨ 0 ≤ frstA f m k
  | 0, _ => Or.inl rfl
  | m + 1, k => by
    simp only [frstA]
    split
    · right; omega
    · exact frst_rng f m (k + 1)
def mbA (b x : Int) : Int := if x < 0 then -6 else 40 * b + x
section MKIND
variable {T : TP} {b : Int} {d : Nat} {σ : SS}
theorem m_at (hT : TOKA T) (hb : isB b) (hr : MTr T b σ) {p : Nat} (hp : p < tN T b) (hm : nmA (tS T b) p = false) :
    (0 ≤ 40 * b + (p : Int) ∧ 40 * b + (p : Int) < 120) ∧ σ 67 0 (40 * b + p) = kos (tS T b p) ∧ MTp (tN T b) (tS T b) b σ p := by
  have := (hT b hb).1
  unfold isB at hb
  obtain ⟨h1, h2⟩ := hr p hp
  refine ⟨by omega, ?_, h2 hm⟩
  rw [h1]; unfold whA; rw [hm]; rfl
theorem m_binder (hT : TOKA T) (hb : isB b) (hM : MTx T σ) (hg : GoodA (tN T b) (tS T b)) (hr : MTr T b σ) {p : Nat} (hp : p < tN T b) :
    Rn (d + 1) 53 [vr 62 0, vi b, vi (40 * b + p)] σ (vi (mbA b (bnA (tN T b) (tS T b) p))) σ := by
  have hn := (hT b hb).1
  have hb' := hb
  unfold isB at hb'
  have e66 : ∀ k : Nat, k < 40 → σ 66 0 (40 * b + k) = tS T b k := fun k hk => (hM b hb).2.2.2 k (by omega) (by omega)
  have hr1 := hr
  unfold MTr at hr1
  generalize hs : tS T b = s at *
  generalize hnn : tN T b = n at *
  refine G_rn rfl (b_53_0 ⟨irI (by omega) (by omega), ?_⟩)
  have key : ∀ (m k : Nat), k + m = p → G (d + 0) (fun v σ' => v = vi (mbA b (bnA n s p)) ∧ σ' = σ) 53 6 [vr 62 0, vu, vi (40 * b + (p : Int)), vi (mbA b (lastA (bnf n s p) k)), vi (40 * b + (k : Int)), vu] [] σ := by
    intro m
    induction m with
    | zero =>
      intro k hk
      obtain rfl : k = p := by omega
      exact b_53_6 ⟨fun _ => ⟨rfl, rfl⟩, fun q => absurd q (by omega)⟩
    | succ m ih =>
      intro k hk
      have hkn : k < n := by omega
      have hir : ir (40 * b + (k : Int) + 1) := irI (by omega) (by omega)
      have i1 := ih (k + 1) (by omega)
      rw [nat1, show (40 * b + ((k : Int) + 1)) = 40 * b + k + 1 by omega] at i1
      have no : bnf n s p k = false → G (d + 0) (fun v σ' => v = vi (mbA b (bnA n s p)) ∧ σ' = σ) 53 6 [vr 62 0, vu, vi (40 * b + (p : Int)), vi (mbA b (lastA (bnf n s p) k)), vi (40 * b + (k : Int) + 1), vu] [] σ := fun q => by
        simp only [lastA, q] at i1; exact i1
      have yes : bnf n s p k = true → G (d + 0) (fun v σ' => v = vi (mbA b (bnA n s p)) ∧ σ' = σ) 53 6 [vr 62 0, vu, vi (40 * b + (p : Int)), vi (40 * b + (k : Int)), vi (40 * b + (k : Int) + 1), vu] [] σ := fun q => by
        have e : mbA b (lastA (bnf n s p) (k + 1)) = 40 * b + (k : Int) := by
          simp only [lastA, q, if_true, mbA]; rw [if_neg (by omega)]
        rw [e] at i1; exact i1
      have ew := (hr1 k hkn).1
      have ep := (hr1 k hkn).2
      refine b_53_6 ⟨fun q => absurd q (by omega), fun _ => ⟨by omega, fun h1 => ⟨fun _ => ⟨hir, no ?_⟩, fun q => absurd rfl q⟩, fun h1 => ?_⟩⟩
      · cases hbn : bnf n s p k
        · rfl
        · obtain ⟨g1, g2, -⟩ := bnf_t.mp hbn
          exfalso; apply h1; rw [ew]; unfold whA; rw [g1, g2]; decide
      have hm : nmA s k = false := by
        cases h : nmA s k
        · rfl
        · rw [ew] at h1; unfold whA at h1; rw [if_pos h] at h1; omega
      have h108 : s k = 108 := by
        rw [ew] at h1; unfold whA at h1; rw [hm] at h1
        exact (kos_nam _).1.mp h1
      have hkn1 : k + 1 < n := by
        have h1 := (nm_next hm).mpr (Or.inl h108)
        have h2 : k + 1 ≠ n := by intro q; rw [q, hg.2.2] at h1; cases h1
        omega
      have hin : inn (kos (s k)) = 2 := by rw [h108]; decide
      obtain ⟨t1, t2, t3, t4⟩ := ep hm
      have t2 := t2 (by omega)
      have e1 := e66 (k + 1) (by omega)
      rw [nat1, show (40 * b + ((k : Int) + 1)) = 40 * b + k + 1 by omega] at e1
      have e2 := e66 p (by omega)
      rw [e1, e2, t2, t4]
      refine ⟨hir, by omega, by omega, fun h2 => ⟨fun _ => ⟨hir, no ?_⟩, fun q => absurd rfl q⟩, fun h2 => ⟨by omega, fun h3 => ⟨fun _ => ⟨hir, no ?_⟩, fun q => absurd rfl q⟩, fun h3 => ⟨by omega, fun h4 => ⟨fun _ => ⟨hir, no ?_⟩, fun q => absurd rfl q⟩, fun h4 => ⟨fun q => absurd q (by decide), fun _ => ⟨hir, yes ?_⟩⟩⟩⟩⟩
      · cases hbn : bnf n s p k
        · rfl
        · exact absurd (bnf_t.mp hbn).2.2.1 h2
      · cases hbn : bnf n s p k
        · rfl
        · have := (bnf_t.mp hbn).2.2.2.1; omega
      · cases hbn : bnf n s p k
        · rfl
        · have := (bnf_t.mp hbn).2.2.2.2; omega
      · exact bnf_t.mpr ⟨hm, h108, h2, by omega, by omega⟩
  have := key p 0 (by omega)
  simp only [lastA] at this
  have e0 : mbA b (-6) = -6 := if_pos (by decide)
  rw [e0] at this
  simpa using this
theorem m_kind (hT : TOKA T) (hb : isB b) (hM : MTx T σ) (hg : GoodA (tN T b) (tS T b)) (hr : MTr T b σ) : ∀ (r p : Nat), rkA (tN T b) (tS T b) p < r → p < tN T b → nmA (tS T b) p = false →
    G (d + 1) (fun v σ' => v = vi (kdA T b p) ∧ σ' = σ) 54 2 [vr 62 0, vi b, vu, vi (40 * b + p), vu] [] σ
  | 0, _, h, _, _ => by omega
  | r + 1, p, hrk, hp, hm => by
    have hb' := hb
    unfold isB at hb'
    have hn := (hT b hb).1
    obtain ⟨a1, a2, a3, a4, a5, a6⟩ := m_at hT hb hr hp hm
    have hk := kd_eq hg hp hm
    have kr := kos_rng (tS T b p)
    have hk0 : 0 ≤ kos (tS T b p) := by
      rcases (show kos (tS T b p) < 0 ∨ 0 ≤ kos (tS T b p) by omega) with q | q
      · exact absurd (Or.inr (Or.inr ⟨hm, q⟩)) (hg.1 p hp)
      · exact q
    have hop : kos (tS T b p) = 7 ∨ kos (tS T b p) = 8 → G (d + 1) (fun v σ' => v = vi (kdA T b p) ∧ σ' = σ) 54 2 [vr 62 0, vi b, vu, vi (σ 69 0 (40 * b + p)), vu] [] σ := fun q => by
      obtain ⟨x1, x2, x3⟩ := hop_c1 hg hp hm q
      have := m_kind hT hb hM hg hr r _ (by omega) x1 x2
      rw [a4 (by have := inn_of q; omega)]
      rw [if_neg (by omega), if_neg (by omega), if_neg (by omega), if_pos q] at hk
      rw [hk]; exact this
    refine b_54_2 ⟨a1, ?_, ?_, ?_, ?_, ?_, ?_, ?_, ?_, ?_, ?_, trivial⟩ <;> rw [a2] <;> intro hq
    · refine ⟨?_, rfl⟩
      rw [hk, if_neg (by omega), if_neg (by omega), if_neg (by omega), if_neg (by omega), if_neg (by omega)]
    · refine ⟨hb, ?_, rfl⟩
      rw [hk, if_neg (by omega), if_pos hq, (hM b hb).2.1]
    · refine ⟨_, σ, m_binder hT hb hM hg hr hp, ?_⟩
      rw [if_neg (by omega), if_neg (by omega), if_neg (by omega), if_neg (by omega), if_pos (by omega)] at hk
      rcases bn_spec hg hp with q | ⟨q, q1, q2, q3, q4, q5, q6, q7⟩
      · rw [q, if_pos (by decide)] at hk
        rw [q, hk, show mbA b (-6) = -6 from if_pos (by decide)]
        exact ⟨fun w => absurd w (by decide), fun _ => ⟨rfl, rfl⟩⟩
      · rw [q1, if_neg (by omega), Int.toNat_natCast] at hk
        have e : mbA b (bnA (tN T b) (tS T b) p) = 40 * b + (q : Int) := by rw [q1]; unfold mbA; rw [if_neg (by omega)]
        obtain ⟨x1, x2, x3⟩ := hop_let hg hp q3 q4 q6 q7 q2
        have hqn : q < tN T b := by omega
        obtain ⟨b1, b2, b3, b4, b5, b6⟩ := m_at hT hb hr hqn q3
        rw [e, b3]
        refine ⟨fun _ => ⟨b1, ?_⟩, fun w => absurd w (by omega)⟩
        have := m_kind hT hb hM hg hr r _ (by omega) x1 x2
        rw [hk]; exact this
    · refine ⟨?_, rfl⟩
      rw [hk, if_pos (by omega)]
    · refine ⟨?_, rfl⟩
      rw [hk, if_neg (by omega), if_neg (by omega), if_neg (by omega), if_neg (by omega), if_neg (by omega)]
    · refine ⟨?_, rfl⟩
      rw [hk, if_neg (by omega), if_neg (by omega), if_neg (by omega), if_neg (by omega), if_neg (by omega)]
    · refine ⟨?_, rfl⟩
      rw [hk, if_neg (by omega), if_neg (by omega), if_neg (by omega), if_neg (by omega), if_neg (by omega)]
    · exact ⟨a1, hop (Or.inl (by omega))⟩
    · exact ⟨a1, hop (Or.inr (by omega))⟩
    · have h9 : kos (tS T b p) = 9 := by omega
      have hof := of_B hg hp hm ((kos_nam _).2.1.mp h9)
      have e66 : σ 66 0 (40 * b + (p : Int) + 1) = tS T b ((p : Int) + 1) := by
        rw [show (40 * b + (p : Int) + 1) = 40 * b + ((p : Int) + 1) by omega]
        exact (hM b hb).2.2.2 _ (by omega) (by omega)
      rw [e66]
      have ho := hof.1
      have : tS T b ((p : Int) + 1) - 48 = ofA (tS T b) p := rfl
      rw [this]
      refine ⟨⟨irI (by omega) (by omega), by omega, by unfold isB at ho; exact irI (by omega) (by omega)⟩, ho, ?_, rfl⟩
      rw [hk, if_neg (by omega), if_neg (by omega), if_pos h9, (hM _ ho).2.2.1]
theorem m_kindAt (hT : TOKA T) (hb : isB b) (hM : MTx T σ) (hg : GoodA (tN T b) (tS T b)) (hr : MTr T b σ) {p : Nat} (hp : p < tN T b) (hm : nmA (tS T b) p = false) :
    Rn (d + 2) 54 [vr 62 0, vi b, vi (40 * b + p)] σ (vi (kdA T b p)) σ := G_rn rfl (b_54_0 (m_kind hT hb hM hg hr _ p (Nat.lt_succ_self _) hp hm))
theorem bit_01 (x : Bool) : (if x = true then (1 : Int) else 0) = 0 ∨ (if x = true then (1 : Int) else 0) = 1 := by cases x <;> simp
theorem bit_t {x : Bool} (h : x = true) : (1 : Int) = if x = true then 1 else 0 := by rw [if_pos h]
theorem bit_f {x : Bool} (h : x = false) : (0 : Int) = if x = true then 1 else 0 := by rw [h]; rfl
theorem kd01 (hT : TOKA T) (hb : isB b) (hg : GoodA (tN T b) (tS T b)) {p : Nat} (hp : p < tN T b) (hm : nmA (tS T b) p = false) : kdA T b p = 0 ∨ kdA T b p = 1 := kd_01 hT hb hg _ _ hp hm
theorem m_ill (hT : TOKA T) (hb : isB b) (hM : MTx T σ) (hg : GoodA (tN T b) (tS T b)) (hr : MTr T b σ) {p : Nat} (hp : p < tN T b) (hm : nmA (tS T b) p = false) :
    Rn (d + 3) 55 [vr 62 0, vi b, vi (40 * b + p)] σ (vi (if illA T b p = true then 1 else 0)) σ := by
  have hb' := hb
  unfold isB at hb'
  have hn := (hT b hb).1
  obtain ⟨a1, a2, a3, a4, a5, a6⟩ := m_at hT hb hr hp hm
  have kr := kos_rng (tS T b p)
  have hk0 : 0 ≤ kos (tS T b p) := by
    rcases (show kos (tS T b p) < 0 ∨ 0 ≤ kos (tS T b p) by omega) with q | q
    · exact absurd (Or.inr (Or.inr ⟨hm, q⟩)) (hg.1 p hp)
    · exact q
  have hin := inn_rng (kos (tS T b p))
  have x0 : 1 ≤ inn (kos (tS T b p)) → c0A (tS T b) p < tN T b ∧ nmA (tS T b) (c0A (tS T b) p) = false := fun q => ⟨(kid1 hg hp hm q).1, (c0_spec hg hp hm).2.2.1⟩
  have x1 : 2 ≤ inn (kos (tS T b p)) → c1A (tN T b) (tS T b) p < tN T b ∧ nmA (tS T b) (c1A (tN T b) (tS T b) p) = false := fun q => ⟨(kid2 hg hp hm q).1, (kid1 hg hp hm (by omega)).2.2.2.2.1⟩
  have x2 : inn (kos (tS T b p)) = 3 → c2A (tN T b) (tS T b) p < tN T b ∧ nmA (tS T b) (c2A (tN T b) (tS T b) p) = false := fun q => ⟨(kids3 hg hp hm q).1, (kid2 hg hp hm (by omega)).2.2.2.2.1⟩
  -- the last part
  have last : ∀ (i1 : Int) (A : Bool), (1 ≤ inn (kos (tS T b p)) → i1 = kdA T b (c0A (tS T b) p)) → G (d + 2) (fun v σ' => v = vi (if (A || illB T b p) = true then 1 else 0) ∧ σ' = σ) 55 34 [vr 62 0, vi b, vi (40 * b + p), vi i1, vi (if A = true then 1 else 0)] [] σ := by
    intro i1 A hi
    have tr : ∀ q : (if A = true then (1 : Int) else 0) ≠ 0, ((1 : Int) = 0 ∨ (1 : Int) = 1) ∧ (vi 1 = vi (if (A || illB T b p) = true then 1 else 0) ∧ σ = σ) := fun q => by
      have : A = true := by cases A <;> simp_all
      rw [this]; exact ⟨Or.inr rfl, rfl, rfl⟩
    have fa : (if A = true then (1 : Int) else 0) = 0 → A = false := fun q => by cases A <;> simp_all
    have none : illB T b p = false → ((if A = true then (1 : Int) else 0) = 0 ∨ (if A = true then (1 : Int) else 0) = 1) ∧ (vi (if A = true then 1 else 0) = vi (if (A || illB T b p) = true then 1 else 0) ∧ σ = σ) := fun q => by
      rw [q, Bool.or_false]; exact ⟨bit_01 A, rfl, rfl⟩
    have b1 : illB T b p = true → ((1 : Int) = 0 ∨ (1 : Int) = 1) ∧ (vi 1 = vi (if (A || illB T b p) = true then 1 else 0) ∧ σ = σ) := fun q => by
      rw [q, Bool.or_true]; exact ⟨Or.inr rfl, rfl, rfl⟩
    have b0 : A = false → illB T b p = false → ((0 : Int) = 0 ∨ (0 : Int) = 1) ∧ (vi 0 = vi (if (A || illB T b p) = true then 1 else 0) ∧ σ = σ) := fun q1 q2 => by
      rw [q1, q2]; exact ⟨Or.inl rfl, rfl, rfl⟩
    refine b_55_34 ⟨a1, ?_, ?_, ?_, ?_, ?_, ?_, ?_, ?_, ?_, trivial⟩ <;> rw [a2] <;> intro hq
    · refine none ?_
      unfold illB
      rw [if_neg (by omega), if_neg (by omega), if_neg (by omega), if_neg (by omega), if_neg (by omega), if_neg (by omega)]
    · refine ⟨tr, fun hA => ⟨_, σ, m_binder hT hb hM hg hr hp, ?_⟩⟩
      have hB : illB T b p = decide (bnA (tN T b) (tS T b) p < 0) := by unfold illB; rw [if_pos hq]
      refine ⟨fun w => b0 (fa hA) ?_, fun w => b1 ?_⟩
      · rw [hB]; unfold mbA at w; split at w
        · omega
        · rename_i z; simp only [decide_eq_false_iff_not]; exact z
      · rw [hB]; unfold mbA at w; split at w
        · rename_i z; simp only [decide_eq_true_eq]; exact z
        · omega
    · have hi1 := hi (by rw [show kos (tS T b p) = 3 by omega]; decide)
      have hB : illB T b p = decide (kdA T b (c0A (tS T b) p) = 1) := by unfold illB; rw [if_neg (by omega), if_pos (Or.inl (by omega))]
      exact ⟨tr, fun hA => ⟨fun w => b0 (fa hA) (by rw [hB]; simp; omega), fun w => b1 (by rw [hB]; simp; omega)⟩⟩
    · have hi1 := hi (by rw [show kos (tS T b p) = 4 by omega]; decide)
      have hB : illB T b p = decide (kdA T b (c0A (tS T b) p) = 0) := by unfold illB; rw [if_neg (by omega), if_neg (by omega), if_pos (by omega)]
      exact ⟨tr, fun hA => ⟨fun w => b0 (fa hA) (by rw [hB]; simp; omega), fun w => b1 (by rw [hB]; simp; omega)⟩⟩
    · have hi1 := hi (by rw [show kos (tS T b p) = 5 by omega]; decide)
      have hB : illB T b p = decide (kdA T b (c0A (tS T b) p) = 1) := by unfold illB; rw [if_neg (by omega), if_pos (Or.inr (by omega))]
      exact ⟨tr, fun hA => ⟨fun w => b0 (fa hA) (by rw [hB]; simp; omega), fun w => b1 (by rw [hB]; simp; omega)⟩⟩
    · have h6 : kos (tS T b p) = 6 := by omega
      have hi1 := hi (by rw [h6]; decide)
      have hB : illB T b p = (decide (kdA T b (c0A (tS T b) p) = 1) || decide (kdA T b (c1A (tN T b) (tS T b) p) = 1)) := by unfold illB; rw [if_neg (by omega), if_neg (by omega), if_neg (by omega), if_pos h6]
      refine ⟨tr, fun hA => ⟨fun w => b1 (by rw [hB]; simp; omega), fun w => ⟨a1, ?_⟩⟩⟩
      obtain ⟨y1, y2⟩ := x1 (by rw [h6]; decide)
      rw [a4 (by rw [h6]; decide)]
      refine ⟨_, σ, m_kindAt hT hb hM hg hr y1 y2, fun z => b0 (fa hA) (by rw [hB]; simp; omega), fun z => b1 (by rw [hB]; simp; omega)⟩
    · have h7 : kos (tS T b p) = 7 := by omega
      have hi1 := hi (by rw [h7]; decide)
      have hB : illB T b p = (decide (kdA T b (c0A (tS T b) p) = 1) || decide (kdA T b (c1A (tN T b) (tS T b) p) ≠ kdA T b (c2A (tN T b) (tS T b) p))) := by unfold illB; rw [if_neg (by omega), if_neg (by omega), if_neg (by omega), if_neg (by omega), if_pos h7]
      refine ⟨tr, fun hA => ⟨fun w => b1 (by rw [hB]; simp; omega), fun w => ⟨a1, ?_⟩⟩⟩
      obtain ⟨y1, y2⟩ := x1 (by rw [h7]; decide)
      obtain ⟨z1, z2⟩ := x2 (by rw [h7]; decide)
      rw [a4 (by rw [h7]; decide)]
      refine ⟨_, σ, m_kindAt hT hb hM hg hr y1 y2, a1, ?_⟩
      rw [a5 (by rw [h7]; decide)]
      exact ⟨_, σ, m_kindAt hT hb hM hg hr z1 z2, fun z => b0 (fa hA) (by rw [hB]; simp; omega), fun z => b1 (by rw [hB]; simp; omega)⟩
    · refine none ?_
      unfold illB
      rw [if_neg (by omega), if_neg (by omega), if_neg (by omega), if_neg (by omega), if_neg (by omega), if_neg (by omega)]
    · have h9 : kos (tS T b p) = 9 := by omega
      have hi1 := hi (by rw [h9]; decide)
      have hB : illB T b p = decide (kdA T b (c0A (tS T b) p) ≠ tG T (ofA (tS T b) p)) := by unfold illB; rw [if_neg (by omega), if_neg (by omega), if_neg (by omega), if_neg (by omega), if_neg (by omega), if_pos h9]
      have hof := of_B hg hp hm ((kos_nam _).2.1.mp h9)
      have e66 : σ 66 0 (40 * b + (p : Int) + 1) = tS T b ((p : Int) + 1) := by
        rw [show (40 * b + (p : Int) + 1) = 40 * b + ((p : Int) + 1) by omega]
        exact (hM b hb).2.2.2 _ (by omega) (by omega)
      rw [e66]
      have ho := hof.1
      have : tS T b ((p : Int) + 1) - 48 = ofA (tS T b) p := rfl
      rw [this, (hM _ ho).2.1]
      refine ⟨tr, fun hA => ⟨⟨irI (by omega) (by omega), by omega, by unfold isB at ho; exact irI (by omega) (by omega)⟩, ho, fun w => b0 (fa hA) (by rw [hB]; simp; omega), fun w => b1 (by rw [hB]; simp; omega)⟩⟩
  have mid : ∀ i1 : Int, (1 ≤ inn (kos (tS T b p)) → i1 = kdA T b (c0A (tS T b) p)) → G (d + 2) (fun v σ' => v = vi (if illA T b p = true then 1 else 0) ∧ σ' = σ) 55 16 [vr 62 0, vi b, vi (40 * b + p), vi i1, vu] [] σ := by
    intro i1 hi
    refine b_55_16 ⟨irI (by omega) (by omega), fun q => ?_, fun q => ⟨_, σ, m_kindAt hT hb hM hg hr hp hm, hb, fun w => ?_, fun w => ?_⟩⟩
    · have e : (decide (p = 0) && decide (kdA T b p ≠ tV T b)) = false := by rw [decide_eq_false (by omega)]; rfl
      have := last i1 false hi
      unfold illA; rw [e]; exact this
    · rw [(hM b hb).2.2.1] at w
      have e : (decide (p = 0) && decide (kdA T b p ≠ tV T b)) = false := by rw [decide_eq_false (p := kdA T b p ≠ tV T b) (fun z => z w), Bool.and_false]
      have := last i1 false hi
      unfold illA; rw [e]; exact this
    · rw [(hM b hb).2.2.1] at w
      have e : (decide (p = 0) && decide (kdA T b p ≠ tV T b)) = true := by rw [decide_eq_true (p := kdA T b p ≠ tV T b) w, decide_eq_true (p := p = 0) (by omega)]; rfl
      have := last i1 true hi
      unfold illA; rw [e]; exact this
  refine G_rn rfl (b_55_0 ⟨a1, ?_, ?_⟩) <;> rw [a2] <;> intro hq
  · exact mid 0 fun q => by omega
  · rw [a3]
    obtain ⟨y1, y2⟩ := x0 (by omega)
    exact ⟨a1, _, σ, m_kindAt hT hb hM hg hr y1 y2, mid _ fun _ => rfl⟩
theorem frst_step {f : Nat → Bool} {m k : Nat} : frstA f (m + 1) k = if f k = true then (k : Int) else frstA f m (k + 1) := rfl
theorem m_illOne (hT : TOKA T) (hb : isB b) (hM : MTx T σ) (hg : GoodA (tN T b) (tS T b)) (hr : MTr T b σ) :
    Rn (d + 4) 56 [vr 62 0, vi b] σ (vi (iloA T b)) σ := by
  have hb' := hb
  unfold isB at hb'
  have hn := (hT b hb).1
  have e65 := (hM b hb).1
  have key : ∀ (m k : Nat), k + m = tN T b → G (d + 3) (fun v σ' => v = vi (frstA (fun p => !nmA (tS T b) p && illA T b p) m k) ∧ σ' = σ) 56 2 [vr 62 0, vi b, vi (k : Int)] [] σ := by
    intro m
    induction m with
    | zero => intro k hk; exact b_56_2 ⟨hb, fun _ => ⟨rfl, rfl⟩, fun q => absurd q (by omega)⟩
    | succ m ih =>
      intro k hk
      have hkn : k < tN T b := by omega
      have i1 := ih (k + 1) (by omega)
      rw [nat1] at i1
      have hw := (hr k hkn).1
      refine b_56_2 ⟨hb, fun q => absurd q (by omega), fun _ => ⟨irI (by omega) (by omega), irI (by omega) (by omega), by omega, ?_⟩⟩
      rw [hw, frst_step]
      cases hm : nmA (tS T b) k
      · refine ⟨fun q => ?_, fun q => ⟨irI (by omega) (by omega), irI (by omega) (by omega), _, σ, m_ill hT hb hM hg hr hkn hm, fun w => ⟨irI (by omega) (by omega), ?_⟩, fun w => ?_⟩⟩
        · exfalso
          unfold whA at q; rw [hm] at q
          exact absurd (Or.inr (Or.inr ⟨hm, q⟩)) (hg.1 k hkn)
        · have : illA T b k = false := by cases h : illA T b k <;> simp_all
          rw [this]; exact i1
        · have : illA T b k = true := by cases h : illA T b k <;> simp_all
          rw [this]; exact ⟨rfl, rfl⟩
      · refine ⟨fun q => ⟨irI (by omega) (by omega), i1⟩, fun q => ?_⟩
        unfold whA at q; rw [if_pos hm] at q; omega
  exact G_rn rfl (b_56_0 (key (tN T b) 0 (by omega)))
/-- isWell -/
theorem m_isWell (hT : TOKA T) (hM : MTx T σ) : ∃ (w : Int) (σ' : SS), Rn (d + 5) 59 [vr 62 0] σ (vi w) σ' ∧ Fm Crm σ σ' ∧ ((w = 1 ∧ welA T ∧ ∀ b, isB b → MTr T b σ') ∨ (w = 0 ∧ ¬ welA T)) := by
  have key : ∀ (P : AV → SS → Prop), (∀ w σ', Fm Crm σ σ' → ((w = 1 ∧ welA T ∧ ∀ b, isB b → MTr T b σ') ∨ (w = 0 ∧ ¬ welA T)) → P (vi w) σ') → ∀ (m k : Nat), k + m = 3 →
      (∀ σ1, Fm Crm σ σ1 → ¬ welA T → G (d + 4) P 59 4 [vr 62 0, vi 0, vi (k : Int)] [] σ1) ∧
      (∀ σ1, Fm Crm σ σ1 → (∀ c : Int, 0 ≤ c → c < k → GoodA (tN T c) (tS T c) ∧ iloA T c = -6 ∧ MTr T c σ1) → G (d + 4) P 59 4 [vr 62 0, vi 1, vi (k : Int)] [] σ1) := by
    intro P hP m
    induction m with
    | zero =>
      intro k hk
      refine ⟨fun σ1 h1 h2 => b_59_4 ⟨fun _ => ⟨Or.inl rfl, hP 0 σ1 h1 (Or.inr ⟨rfl, h2⟩)⟩, fun q => absurd q (by omega)⟩, fun σ1 h1 h2 => b_59_4 ⟨fun _ => ⟨Or.inr rfl, hP 1 σ1 h1 (Or.inl ⟨rfl, fun b hb => ?_, fun b hb => ?_⟩)⟩, fun q => absurd q (by omega)⟩⟩
      · unfold isB at hb
        obtain ⟨g1, g2, g3⟩ := h2 b (by omega) (by omega)
        exact ⟨g1, g2⟩
      · unfold isB at hb
        exact (h2 b (by omega) (by omega)).2.2
    | succ m ih =>
      intro k hk
      obtain ⟨i0, i1⟩ := ih (k + 1) (by omega)
      rw [nat1] at i0 i1
      have hkb : isB (k : Int) := by unfold isB; omega
      have hir : ir ((k : Int) + 1) := irI (by omega) (by omega)
      refine ⟨fun σ1 h1 h2 => b_59_4 ⟨fun q => absurd q (by omega), fun _ => ⟨fun _ => ⟨hir, i0 σ1 h1 h2⟩, fun q => absurd rfl q⟩⟩, fun σ1 h1 h2 => b_59_4 ⟨fun q => absurd q (by omega), fun _ => ⟨fun q => absurd q (by decide), fun _ => ?_⟩⟩⟩
      have hM1 : MTx T σ1 := hM.keep h1 (fun t i j q => by unfold Crm at q; omega)
      obtain ⟨f, σ2, r1, r2, r3, r4⟩ := m_read (d := d + 1) hT hkb hM1
      obtain ⟨g1, g2⟩ := Good_of r2
      have hF2 : Fm Crm σ σ2 := h1.tr (r3.mono fun t i j q => by unfold Crd at q; unfold Crm; exact q.1)
      have hM2 : MTx T σ2 := hM.keep hF2 (fun t i j q => by unfold Crm at q; omega)
      refine ⟨f, σ2, r1, fun q => ⟨hir, i0 σ2 hF2 fun w => ?_⟩, fun q => ?_⟩
      · have := g1.mpr (w k hkb).1; omega
      · have hf := g2.mp q
        have hg := g1.mp hf
        have ht := r4 hf
        refine ⟨_, σ2, m_illOne (d := d) hT hkb hM2 hg ht, fun w => ⟨hir, i0 σ2 hF2 fun z => ?_⟩, fun w => ⟨hir, i1 σ2 hF2 fun c h3 h4 => ?_⟩⟩
        · have := (z k hkb).2; omega
        · by_cases hc : c = k
          · subst hc
            refine ⟨hg, ?_, ht⟩
            unfold iloA at w ⊢
            rcases frst_rng (fun p => !nmA (tS T k) p && illA T k p) (tN T k) 0 with z | z
            · exact z
            · omega
          · obtain ⟨y1, y2, y3⟩ := h2 c h3 (by omega)
            have hcb : isB c := by unfold isB; omega
            exact ⟨y1, y2, y3.keep (hT c hcb).1 r3 (fun t i j q q1 q2 q3 q4 => by unfold Crd at q; omega)⟩
  have : Ok (d + 5) 59 [vr 62 0] σ (fun v σ' => ∃ w, v = vi w ∧ Fm Crm σ σ' ∧ ((w = 1 ∧ welA T ∧ ∀ b, isB b → MTr T b σ') ∨ (w = 0 ∧ ¬ welA T))) :=
    G_ok rfl (b_59_0 ((key _ (fun w σ' h1 h2 => ⟨w, rfl, h1, h2⟩) 3 0 (by omega)).2 σ (Fm.rf σ) (fun c h1 h2 => by omega)))
  obtain ⟨v, σ', h1, w, rfl, h2, h3⟩ := this
  exact ⟨w, σ', h1, h2, h3⟩
end MKIND
