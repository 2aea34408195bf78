/-! ===== agreement: parts, tells, touches ===== -/
theorem any_cong {f g : Nat → Bool} : ∀ {k : Nat}, (∀ p, p < k → f p = g p) → anyA f k = anyA g k
  | 0, _ => rfl
  | k + 1, h => by simp only [anyA]; rw [any_cong fun p hp => h p (by omega), h k (by omega)]
theorem to_cong {T : TP} {b : Int} (hg : GoodA (tN T b) (tS T b)) {nu nu' : Nat → Int} (h : ∀ k, k < tN T b → nu k = nu' k) {p : Nat} {r : Int} (hp : p < tN T b) : toB T b nu p r = toB T b nu' p r := by
  have := (toB_iff (T := T) (b := b) (nu := nu) (p := p) (r := r)).trans ((toA_cong hg h hp).trans toB_iff.symm)
  cases h1 : toB T b nu p r <;> cases h2 : toB T b nu' p r <;> simp_all
theorem do_cong {T : TP} {b : Int} (hg : GoodA (tN T b) (tS T b)) {nu nu' : Nat → Int} {e e' : Int → Int} (h : ∀ k, k < tN T b → nu k = nu' k) (he : ∀ c, isB c → e c = e' c) {p : Nat} {r : Int} {lk : Bool} (hp : p < tN T b) : doB T b nu e p r lk = doB T b nu' e' p r lk := by
  unfold doB
  cases hm : nmA (tS T b) p
  rotate_left
  · rfl
  have c0 : 1 ≤ inn (kos (tS T b p)) → c0A (tS T b) p < tN T b := fun q => (kid1 hg hp hm q).1
  rw [h p hp]
  by_cases q : kos (tS T b p) = (if lk = true then 4 else 3)
  · rw [if_pos q, if_pos q]
    cases lk
    · simp only [Bool.false_eq_true, if_false]
      rw [h p hp]
    · simp only [if_true] at q ⊢
      rw [h _ (c0 (by rw [q]; decide))]
  · rw [if_neg q, if_neg q]
    by_cases q9 : kos (tS T b p) = 9
    · rw [if_pos q9, if_pos q9, h _ (c0 (by rw [q9]; decide)), he _ (of_B hg hp hm (kos_9.mp q9)).1]
    · rw [if_neg q9, if_neg q9]
theorem efV_cong {T : TP} (hW : welA T) {nu nu' : Int → Nat → Int} {ps ps' e : Int → Int} {b : Int} (hb : isB b) (h : ∀ k, k < tN T b → nu b k = nu' b k) (hp : ps b = ps' b) : efV T nu ps e b = efV T nu' ps' e b := by
  unfold efV efK
  have k : ∀ i, anyA (qA T b (nu b) ps e i) (tN T b) = anyA (qA T b (nu' b) ps' e i) (tN T b) := fun i => any_cong fun p hpn => by
    have d := fun r lk => do_cong (e := e) (e' := e) (r := r) (lk := lk) (hW b hb).1 h (fun _ _ => rfl) hpn
    unfold qA
    rw [hp]
    split <;> exact d _ _
  rw [k, k, k, k]
theorem ef_eq {T : TP} {β τ : SS} (hLy : LyC T β) (hM : MLay T τ) : (∀ b, isB b → τ 77 0 b = β 4 b 7) ∧ ∀ b, isB b → ∀ k, k < tN T b → nuM τ b k = nuF β b k := by
  obtain ⟨e1, e2, e3⟩ := lay_eq hLy hM
  obtain ⟨hT, hW, hCW, hP, hE, hL⟩ := hLy
  obtain ⟨mP, mE, mL⟩ := hM
  have c : ∀ (q : Int → Int) b, isB b → efV T (nuM τ) (psM τ) q b = efV T (nuF β) (psA β) q b := fun q b hb => efV_cong hW hb (e3 b hb) (e1 b hb)
  refine ⟨fun b hb => ?_, e3⟩
  have : EfOK T (nuF β) (psA β) (efM τ) := by
    obtain ⟨⟨u1, u2, u3⟩, u4⟩ := mE
    exact ⟨⟨u1, fun b hb => by rw [← c _ b hb]; exact u2 b hb, fun q q1 q2 => u3 q q1 fun b hb => by rw [c _ b hb]; exact q2 b hb⟩, fun b hb => by rw [← c _ b hb]; exact u4 b hb⟩
  exact EfOK_uniq this hE b hb
/-- tells -/
theorem ag_33 (a1 a2 : Int) (_ : ir a1) (_ : ir a2) : Agr Inv 33 68 [vi a1, vi a2] := by
  intro k σ hk hI
  obtain ⟨T, hI⟩ := hI
  by_cases hb : isB a1
  rotate_left
  · exact ⟨-1, σ, σ, G_rn rfl (b_33_0 (d := 2) ⟨none, σ, s_15n hb, b_33_4n ⟨rfl, rfl⟩⟩), G_rn rfl (b_68_0 (d := 2) ⟨fun q => absurd (ifB.2.mp q) hb, fun _ => ⟨rfl, rfl⟩⟩), Inv.step ⟨T, hI⟩, rfl, rfl⟩
  by_cases h2 : 0 ≤ a2 ∧ a2 ≤ 2
  rotate_left
  · exact ⟨-2, σ, σ, G_rn rfl (b_33_0 (d := 2) ⟨some (4, a1), σ, s_15 hb, b_33_4r ⟨fun q => absurd (ifR.2.mp q) h2, fun _ => ⟨rfl, rfl⟩⟩⟩), G_rn rfl (b_68_0 (d := 2) ⟨fun _ => ⟨fun q => absurd (ifR.2.mp q) h2, fun _ => ⟨rfl, rfl⟩⟩, fun q => absurd hb (ifB.1.mp q)⟩), Inv.step ⟨T, hI⟩, rfl, rfl⟩
  have hb' := hb
  unfold isB at hb'
  obtain ⟨w, σ1, σ2, r1, r2, k1, k2, g1, g2, hF, h3⟩ := both_set hI
  have cl : ∀ {P : AV → SS → Prop}, ((w ≠ 0 → ((a2 ≠ 0 → ((a2 ≠ (1 : Int) → P (vi (σ1 4 a1 8)) σ1) ∧ (a2 = (1 : Int) → P (vi (σ1 4 a1 7)) σ1))) ∧ (a2 = 0 → (((σ1 4 a1 6) = 0 → P (vi (0 : Int)) σ1) ∧ ((σ1 4 a1 6) ≠ 0 → P (vi (1 : Int)) σ1))))) ∧ (w = 0 → P (vi ((-5) : Int)) σ1)) → G (2 + 6) P 33 0 [vr 0 0, vi a1, vi a2, vu] [] σ := fun h => b_33_0 ⟨some (4, a1), σ, s_15 hb, b_33_4r ⟨fun _ => ⟨w, σ1, r1, h⟩, fun q => absurd h2 (ifR.1.mp q)⟩⟩
  have ml : ∀ {P : AV → SS → Prop}, ((w ≠ 0 → ((a2 ≠ 0 → ((a2 ≠ (1 : Int) → ((0 ≤ a1 ∧ a1 < 3) ∧ P (vi (σ2 76 0 a1)) σ2)) ∧ (a2 = (1 : Int) → ((0 ≤ a1 ∧ a1 < 3) ∧ P (vi (σ2 77 0 a1)) σ2)))) ∧ (a2 = 0 → ((0 ≤ a1 ∧ a1 < 3) ∧ (((σ2 73 0 a1) = 0 → P (vi (0 : Int)) σ2) ∧ ((σ2 73 0 a1) ≠ 0 → P (vi (1 : Int)) σ2)))))) ∧ (w = 0 → P (vi ((-5) : Int)) σ2)) → G (2 + 6) P 68 0 [vr 62 0, vi a1, vi a2] [] σ1 := fun h => b_68_0 ⟨fun _ => ⟨fun _ => ⟨w, σ2, r2, h⟩, fun q => absurd h2 (ifR.1.mp q)⟩, fun q => absurd hb (ifB.1.mp q)⟩
  rcases h3 with ⟨hw, hL, hMW, hML⟩ | hw
  · obtain ⟨e73, eLy, -⟩ := lay_eq hL hML
    obtain ⟨e77, -⟩ := ef_eq hL hML
    have e1 := e73 a1 hb
    have e2 := (eLy a1 hb).1
    have e3 := e77 a1 hb
    by_cases q0 : a2 = 0
    · by_cases z : σ1 4 a1 6 = 0
      · exact ⟨0, σ1, σ2, G_rn rfl (cl ⟨fun _ => ⟨fun q => absurd q0 q, fun _ => ⟨fun _ => ⟨rfl, rfl⟩, fun q => absurd z q⟩⟩, fun q => absurd q (by omega)⟩), G_rn rfl (ml ⟨fun _ => ⟨fun q => absurd q0 q, fun _ => ⟨hb', fun _ => ⟨rfl, rfl⟩, fun q => absurd (e1.trans z) q⟩⟩, fun q => absurd q (by omega)⟩), Inv.step ⟨T, k2⟩, g1, g2⟩
      · exact ⟨1, σ1, σ2, G_rn rfl (cl ⟨fun _ => ⟨fun q => absurd q0 q, fun _ => ⟨fun q => absurd q z, fun _ => ⟨rfl, rfl⟩⟩⟩, fun q => absurd q (by omega)⟩), G_rn rfl (ml ⟨fun _ => ⟨fun q => absurd q0 q, fun _ => ⟨hb', fun q => absurd (e1.symm.trans q) z, fun _ => ⟨rfl, rfl⟩⟩⟩, fun q => absurd q (by omega)⟩), Inv.step ⟨T, k2⟩, g1, g2⟩
    by_cases q1 : a2 = 1
    · exact ⟨σ1 4 a1 7, σ1, σ2, G_rn rfl (cl ⟨fun _ => ⟨fun _ => ⟨fun q => absurd q1 q, fun _ => ⟨rfl, rfl⟩⟩, fun q => absurd q q0⟩, fun q => absurd q (by omega)⟩), G_rn rfl (ml ⟨fun _ => ⟨fun _ => ⟨fun q => absurd q1 q, fun _ => ⟨hb', by rw [e3], rfl⟩⟩, fun q => absurd q q0⟩, fun q => absurd q (by omega)⟩), Inv.step ⟨T, k2⟩, g1, g2⟩
    · exact ⟨σ1 4 a1 8, σ1, σ2, G_rn rfl (cl ⟨fun _ => ⟨fun _ => ⟨fun _ => ⟨rfl, rfl⟩, fun q => absurd q q1⟩, fun q => absurd q q0⟩, fun q => absurd q (by omega)⟩), G_rn rfl (ml ⟨fun _ => ⟨fun _ => ⟨fun _ => ⟨hb', by rw [e2], rfl⟩, fun q => absurd q q1⟩, fun q => absurd q q0⟩, fun q => absurd q (by omega)⟩), Inv.step ⟨T, k2⟩, g1, g2⟩
  · exact ⟨-5, σ1, σ2, G_rn rfl (cl ⟨fun q => absurd hw q, fun _ => ⟨rfl, rfl⟩⟩), G_rn rfl (ml ⟨fun q => absurd hw q, fun _ => ⟨rfl, rfl⟩⟩), Inv.step ⟨T, k2⟩, g1, g2⟩
/-- parts -/
theorem ag_30 (a1 a2 : Int) (_ : ir a1) (_ : ir a2) : Agr Inv 30 57 [vi a1, vi a2] := by
  intro k σ hk hI
  obtain ⟨T, hI⟩ := hI
  obtain ⟨hT, hB, hM, hch, -⟩ := id hI
  by_cases hb : isB a1
  rotate_left
  · exact ⟨-1, σ, σ, G_rn rfl (b_30_0 (d := 4) ⟨none, σ, s_15n hb, b_30_4n ⟨rfl, rfl⟩⟩), G_rn rfl (b_57_0 (d := 4) ⟨fun q => absurd (ifB.2.mp q) hb, fun _ => ⟨rfl, rfl⟩⟩), Inv.step ⟨T, hI⟩, rfl, rfl⟩
  by_cases h2 : 0 ≤ a2 ∧ a2 ≤ 1
  rotate_left
  · exact ⟨-2, σ, σ, G_rn rfl (b_30_0 (d := 4) ⟨some (4, a1), σ, s_15 hb, b_30_4r ⟨fun q => absurd (ifR.2.mp q) h2, fun _ => ⟨rfl, rfl⟩⟩⟩), G_rn rfl (b_57_0 (d := 4) ⟨fun _ => ⟨fun q => absurd (ifR.2.mp q) h2, fun _ => ⟨rfl, rfl⟩⟩, fun q => absurd hb (ifB.1.mp q)⟩), Inv.step ⟨T, hI⟩, rfl, rfl⟩
  have hb' := hb
  unfold isB at hb'
  have hn := (hT a1 hb).1
  obtain ⟨f, σ2, r1, r2, r3, r4⟩ := m_read (d := 5) hT hb hM
  have e := IsFA_uniq (hB.2.1 a1 hb).1 r2
  have hI2 : Inv (k + 1) σ2 := Inv.step ⟨T, hI.keepM r3 (fun t i j q => by unfold Crd at q; omega)⟩
  have f9 : σ2 99 = σ 99 := f99 r3 (fun i j q => by unfold Crd at q; omega)
  by_cases hf : f = -6
  · have hg := (Good_of r2).1.mp hf
    have h9 : σ 5 a1 9 = -6 := e.trans hf
    have hr := (hB.2.1 a1 hb).2 h9
    have hk38 := hB.2.2.1 a1 hb h9
    have hmr := r4 hf
    have hmt : MTx T σ2 := hM.keep r3 (fun t i j q => by unfold Crd at q; omega)
    have e65 := (hmt a1 hb).1
    have ci := c_firstIll (d := 4) hT hb hB.1 hg hr hk38
    have mi := m_illOne (d := 4) hT hb hmt hg hmr
    have hcnt := hr.2.2
    have loop : ∀ (x : Int), (a2 = 0 → x = ctA (tS T a1) (tN T a1)) → (a2 ≠ 0 → x = iloA T a1) → ∀ (m j : Nat), j + m = tN T a1 → G (4 + 4) (fun v s => v = vi x ∧ s = σ2) 57 22 [vr 62 0, vi a1, vi a2, vi (ctA (tS T a1) j : Int), vi (j : Int)] [] σ2 := by
      intro x x0 x1 m
      induction m with
      | zero =>
        intro j hj
        obtain rfl : j = tN T a1 := by omega
        exact b_57_22 ⟨by omega, fun _ => ⟨fun q => ⟨_, σ2, mi, by rw [x1 q], rfl⟩, fun q => ⟨by rw [x0 q], rfl⟩⟩, fun q => absurd q (by rw [e65]; omega)⟩
      | succ m ih =>
        intro j hj
        have h67 := (hmr j (by omega)).1
        have hc40 : ctA (tS T a1) j ≤ j := cnt_le _ _
        have hs : ctA (tS T a1) (j + 1) = ctA (tS T a1) j + (if nmA (tS T a1) j = true then 0 else 1) := by
          unfold ctA
          simp only [cntA]
          by_cases hm : nmA (tS T a1) j = true
          · rw [if_pos hm, if_neg (by rw [hm]; decide)]
          · rw [if_neg hm, if_pos (by simpa using hm)]
        have ih' := ih (j + 1) (by omega)
        refine b_57_22 ⟨by omega, fun q => absurd q (by rw [e65]; omega), fun _ => ⟨irI (by omega) (by omega), irI (by omega) (by omega), by omega, fun q => ?_, fun q => ?_⟩⟩
        · rw [h67] at q
          have hm : nmA (tS T a1) j = true := by
            cases hm : nmA (tS T a1) j
            · unfold whA at q; rw [hm] at q
              have := kos_ge hg (by omega) hm
              simp at q; omega
            · rfl
          rw [hs, if_pos hm, Nat.add_zero] at ih'
          rw [Int.add_zero]
          exact ⟨irI (by omega) (by omega), irI (by omega) (by omega), ih'⟩
        · rw [h67] at q
          have hm : nmA (tS T a1) j ≠ true := fun hm => by unfold whA at q; rw [if_pos hm] at q; exact absurd q (by decide)
          rw [hs, if_neg hm] at ih'
          exact ⟨irI (by omega) (by omega), irI (by omega) (by omega), ih'⟩
    have fin : ∀ x : Int, (a2 = 0 → x = ctA (tS T a1) (tN T a1)) → (a2 ≠ 0 → x = iloA T a1) → ∃ x σ1 σ2, Rn 9 30 [vr 0 0, vi a1, vi a2] σ (vi x) σ1 ∧ Rn 9 57 [vr 62 0, vi a1, vi a2] σ1 (vi x) σ2 ∧ Inv (k + 1) σ2 ∧ σ1 99 = σ 99 ∧ σ2 99 = σ 99 := fun x x0 x1 => by
      refine ⟨x, σ, σ2, G_rn rfl (b_30_0 (d := 4) ⟨some (4, a1), σ, s_15 hb, b_30_4r ⟨fun _ => ⟨fun _ => ⟨fun q => ⟨_, σ, ci, by rw [x1 q], rfl⟩, fun q => ⟨by rw [hcnt, x0 q], rfl⟩⟩, fun q => absurd h9 q⟩, fun q => absurd h2 (ifR.1.mp q)⟩⟩), G_rn rfl (b_57_0 (d := 4) ⟨fun _ => ⟨fun _ => ⟨f, σ2, r1, fun _ => loop x x0 x1 (tN T a1) 0 (by omega), fun q => absurd q (by omega)⟩, fun q => absurd h2 (ifR.1.mp q)⟩, fun q => absurd hb (ifB.1.mp q)⟩), hI2, rfl, f9⟩
    by_cases q : a2 = 0
    · exact fin _ (fun _ => rfl) (fun w => absurd q w)
    · exact fin _ (fun w => absurd w q) (fun _ => rfl)
  · have hf0 : 0 ≤ f := by
      rcases r2 with w | w | ⟨j, w1, w2, w3⟩
      · exact absurd w.1 hf
      · have := w.1; omega
      · omega
    exact ⟨-5, σ, σ2, G_rn rfl (b_30_0 (d := 4) ⟨some (4, a1), σ, s_15 hb, b_30_4r ⟨fun _ => ⟨fun q => absurd (e.symm.trans q) hf, fun _ => ⟨rfl, rfl⟩⟩, fun q => absurd h2 (ifR.1.mp q)⟩⟩), G_rn rfl (b_57_0 (d := 4) ⟨fun _ => ⟨fun _ => ⟨f, σ2, r1, fun q => absurd q (by omega), fun _ => ⟨rfl, rfl⟩⟩, fun q => absurd h2 (ifR.1.mp q)⟩, fun q => absurd hb (ifB.1.mp q)⟩), hI2, rfl, f9⟩
