/-! ===== the class between calls: texts, trees, kinds, what was settled ===== -/
def Cse : Nat → Int → Int → Prop := fun t _ j => t = 4 ∨ (46 ≤ t ∧ t ≤ 49) ∨ (t = 2 ∧ (j = 2 ∨ j = 3))
def CSt (T : TP) (σ : SS) : Prop := (σ 2 0 3 = 1 ∧ welA T ∧ CLay T σ) ∨ (σ 2 0 3 = 0 ∧ ¬ welA T)
def CB (T : TP) (σ : SS) : Prop := CTx T σ ∧ CTT T σ ∧ CKd T σ ∧ (σ 2 0 2 = σ 2 0 1 → CSt T σ)
theorem wel_9 {T : TP} {σ : SS} (hI : CTT T σ) (hW : welA T) {b : Int} (hb : isB b) : σ 5 b 9 = -6 := (Good_of (hI b hb).1).1.mpr (hW b hb).1
theorem CW_of {T : TP} {σ : SS} (hC : CTx T σ) (hI : CTT T σ) (hK : CKd T σ) (hW : welA T) : CW T σ := ⟨hC, fun b hb => ⟨(hI b hb).2 (wel_9 hI hW hb), hK b hb (wel_9 hI hW hb)⟩⟩
theorem CTT.keep {T : TP} {C : Nat → Int → Int → Prop} {σ σ' : SS} (h : CTT T σ) (hF : Fm C σ σ') (hc : ∀ t i j, C t i j → t ≠ 5 ∧ (t < 39 ∨ 45 < t)) : CTT T σ' := by
  intro b hb
  have e : σ' 5 b 9 = σ 5 b 9 := hF _ _ _ fun q => (hc _ _ _ q).1 rfl
  obtain ⟨h1, h2⟩ := h b hb
  rw [e]
  exact ⟨h1, fun q => (h2 q).keep hF fun t i j c w => by have := hc t i j c; unfold Ctm at w; omega⟩
theorem CKd.keep {T : TP} {C : Nat → Int → Int → Prop} {σ σ' : SS} (h : CKd T σ) (hF : Fm C σ σ') (hc : ∀ t i j, C t i j → t ≠ 5 ∧ t ≠ 38) : CKd T σ' := by
  intro b hb h9 p hp
  rw [hF _ _ _ fun q => (hc _ _ _ q).1 rfl] at h9
  rw [hF _ _ _ fun q => (hc _ _ _ q).2 rfl]
  exact h b hb h9 p hp
section CSET
variable {T : TP} {b : Int} {d : Nat} {σ : SS}
theorem c_allWell (hT : TOKA T) (hC : CTx T σ) (hI : CTT T σ) (hK : CKd T σ) : ∃ w, Rn (d + 5) 108 [vr 2 0] σ (vi w) σ ∧ ((w = 1 ∧ welA T) ∨ (w = 0 ∧ ¬ welA T)) := by
  let PP : AV → SS → Prop := fun v σ' => ∃ w, v = vi w ∧ σ' = σ ∧ ((w = 1 ∧ welA T) ∨ (w = 0 ∧ ¬ welA T))
  have loop : ∀ (m k : Nat), k + m = 3 → (∀ c : Int, 0 ≤ c → c < k → GoodA (tN T c) (tS T c) ∧ iloA T c = -6) → G (d + 4) PP 108 2 [vr 2 0, vi (k : Int), vu] [] σ := by
    intro m
    induction m with
    | zero => intro k hk h; exact b_108_2 ⟨fun _ => ⟨Or.inr rfl, 1, rfl, rfl, Or.inl ⟨rfl, fun b hb => h b hb.1 (by have := hb.2; omega)⟩⟩, fun q => absurd q (by omega)⟩
    | succ m ih =>
      intro k hk h
      have hkb : isB (k : Int) := by unfold isB; omega
      have i1 := ih (k + 1) (by omega)
      rw [nat1] at i1
      refine b_108_2 ⟨fun q => absurd q (by omega), fun _ => ⟨hkb, fun q => ⟨Or.inl rfl, 0, rfl, rfl, Or.inr ⟨rfl, fun w => q (wel_9 hI w hkb)⟩⟩, fun q => ?_⟩⟩
      have hg := (Good_of (hI k hkb).1).1.mp q
      refine ⟨_, σ, c_firstIll (d := d) hT hkb hC hg ((hI k hkb).2 q) (hK k hkb q), fun w => ⟨irI (by omega) (by omega), i1 fun c c1 c2 => ?_⟩, fun w => ⟨Or.inl rfl, 0, rfl, rfl, Or.inr ⟨rfl, fun z => w (z k hkb).2⟩⟩⟩
      by_cases hc : c = k
      · rw [hc]; exact ⟨hg, w⟩
      · exact h c c1 (by omega)
  have : Ok (d + 5) 108 [vr 2 0] σ PP := G_ok rfl (b_108_0 (loop 3 0 (by omega) (fun c h1 h2 => by omega)))
  obtain ⟨v, σ', h1, w, rfl, rfl, h2⟩ := this
  exact ⟨w, h1, h2⟩
/-- settle -/
theorem c_settle (hT : TOKA T) (hB : CB T σ) : ∃ w σ', Rn (d + 6) 107 [vr 2 0] σ (vi w) σ' ∧ Fm Cse σ σ' ∧ CB T σ' ∧ σ' 2 0 2 = σ' 2 0 1 ∧ ((w = 1 ∧ welA T ∧ CLay T σ') ∨ (w = 0 ∧ ¬ welA T)) := by
  obtain ⟨hC, hI, hK, hS⟩ := hB
  let PP : AV → SS → Prop := fun v σ' => ∃ w, v = vi w ∧ Fm Cse σ σ' ∧ CB T σ' ∧ σ' 2 0 2 = σ' 2 0 1 ∧ ((w = 1 ∧ welA T ∧ CLay T σ') ∨ (w = 0 ∧ ¬ welA T))
  have base : ∀ σ1, Fm Cse σ σ1 → CTx T σ1 ∧ CTT T σ1 ∧ CKd T σ1 := fun σ1 h => ⟨hC.keep h (fun t i j q => by unfold Cse at q; omega), hI.keep h (fun t i j q => by unfold Cse at q; omega), hK.keep h (fun t i j q => by unfold Cse at q; omega)⟩
  have fin : ∀ σ1 w, Fm Cse σ σ1 → σ1 2 0 2 = σ1 2 0 1 → σ1 2 0 3 = w → ((w = 1 ∧ welA T ∧ CLay T σ1) ∨ (w = 0 ∧ ¬ welA T)) → ((σ1 2 0 3 = 0 ∨ σ1 2 0 3 = 1) ∧ PP (vi (σ1 2 0 3)) σ1) := by
    intro σ1 w h1 h2 h3 h4
    obtain ⟨b1, b2, b3⟩ := base σ1 h1
    refine ⟨by omega, w, by rw [h3], h1, ⟨b1, b2, b3, fun _ => ?_⟩, h2, h4⟩
    rcases h4 with h4 | h4
    · exact Or.inl ⟨by omega, h4.2⟩
    · exact Or.inr ⟨by omega, h4.2⟩
  have : Ok (d + 6) 107 [vr 2 0] σ PP := by
    refine G_ok rfl (b_107_0 ⟨fun h1 σ1 e1 => ?_, fun h1 => ?_⟩)
    · have hF1 : Fm Cse σ σ1 := by rw [e1]; exact (Fm.rf σ).up (Or.inr (Or.inr ⟨rfl, Or.inl rfl⟩))
      obtain ⟨b1, b2, b3⟩ := base σ1 hF1
      obtain ⟨w, r1, r2⟩ := c_allWell (d := d) hT b1 b2 b3
      refine ⟨w, σ1, r1, by omega, fun σ4 e4 => ?_⟩
      have hF4 : Fm Cse σ σ4 := by rw [e4]; exact hF1.up (Or.inr (Or.inr ⟨rfl, Or.inr rfl⟩))
      have s2 : σ4 2 0 2 = σ4 2 0 1 := by rw [e4, up_ne (by omega), up_ne (by omega), e1, up_eq ⟨rfl, rfl, rfl⟩, up_ne (by omega)]
      have s3 : σ4 2 0 3 = w := by rw [e4]; exact up_eq ⟨rfl, rfl, rfl⟩
      refine ⟨fun q => fin σ4 w hF4 s2 s3 ?_, fun q => ?_⟩
      · rcases r2 with r2 | r2
        · omega
        · exact Or.inr r2
      have hw1 : w = 1 := by rcases r2 with r2 | r2 <;> omega
      have hW : welA T := by
        rcases r2 with r2 | r2
        · exact r2.2
        · omega
      obtain ⟨c1, c2, c3⟩ := base σ4 hF4
      have hCW := CW_of c1 c2 c3 hW
      obtain ⟨σ5, p1, p2, p3, p4⟩ := c_passes (d := d) hT hW hCW
      have hF5 : Fm Cse σ4 σ5 := p2.mono fun t i j q => by unfold Cps at q; unfold Cse; omega
      refine ⟨σ5, p1, ?_⟩
      have homes : ∀ (m k : Nat) (σ6 : SS), k + m = 3 → Fm (fun t _ j => t = 4 ∨ (46 ≤ t ∧ t ≤ 49)) σ4 σ6 → PsOK T (psA σ6) → EfOK T (nuF σ6) (psA σ6) (efF σ6) → (∀ b, isB b → NuOK T b (psA σ6) (nuF σ6 b) (σ6 4 b 8) ∧ CNb T b σ6) → (∀ c : Int, 0 ≤ c → c < k → ∀ r : Int, 2 ≤ r → r < 2 + σ6 4 c 8 → ∃ h : Nat, σ6 49 c r = h ∧ HmOK T c (nuF σ6 c) r h) →
          G (d + 5) PP 107 39 [vr 2 0, vi (k : Int)] [] σ6 := by
        intro m
        induction m with
        | zero =>
          intro k σ6 hk hF6 g1 g2 g3 g4
          refine b_107_39 ⟨fun _ => fin σ6 w (hF4.tr (hF6.mono fun t i j q => by unfold Cse; omega)) ?_ ?_ (Or.inl ⟨hw1, hW, g1, g2, fun b hb => ⟨(g3 b hb).1, (g3 b hb).2, g4 b hb.1 (by have := hb.2; omega)⟩⟩), fun q => absurd q (by omega)⟩
          · rw [hF6 _ _ _ (by omega), hF6 _ _ _ (by omega)]; exact s2
          · rw [hF6 _ _ _ (by omega)]; exact s3
        | succ m ih =>
          intro k σ6 hk hF6 g1 g2 g3 g4
          have hkb : isB (k : Int) := by unfold isB; omega
          obtain ⟨σ7, j1, j2, j3⟩ := c_homes (d := d + 2) hT hW hkb (hCW.keep hF6 (fun t i j q => by omega)) (g3 k hkb).2 (g3 k hkb).1
          have e1 : psA σ7 = psA σ6 := ps_keep j2 fun t i j q => by omega
          have e2 : efF σ7 = efF σ6 := ef_keep j2 fun t i j q => by omega
          have e3 : nuF σ7 = nuF σ6 := nu_keep j2 fun t i j q => by omega
          have e4 : ∀ b, σ7 4 b 8 = σ6 4 b 8 := fun b => j2 _ _ _ (by omega)
          have i1 := ih (k + 1) σ7 (by omega) (hF6.tr (j2.mono fun t i j q => by omega)) (by rw [e1]; exact g1) (by rw [e1, e2, e3]; exact g2) (fun b hb => ⟨by rw [e1, e3, e4]; exact (g3 b hb).1, (g3 b hb).2.keep j2 fun t i j q => by omega⟩) (fun c c1 c2 r r1 r2 => by
            rw [e4] at r2
            rw [e3]
            by_cases hc : c = k
            · subst hc; exact j3 r r1 r2
            · obtain ⟨h, h1, h2⟩ := g4 c c1 (by omega) r r1 r2
              exact ⟨h, by rw [j2 _ _ _ (by omega)]; exact h1, h2⟩)
          rw [nat1] at i1
          exact b_107_39 ⟨fun q => absurd q (by omega), fun _ => ⟨hkb, σ7, j1, irI (by omega) (by omega), i1⟩⟩
      have nums : ∀ (m k : Nat) (σ6 : SS), k + m = 3 → Fm (fun t _ j => t = 4 ∨ (46 ≤ t ∧ t ≤ 49)) σ4 σ6 → PsOK T (psA σ6) → (∀ b, isB b → EqL (lbA b σ6) (EdA T b (psA σ6))) → (∀ c : Int, 0 ≤ c → c < k → NuOK T c (psA σ6) (nuF σ6 c) (σ6 4 c 8) ∧ CNb T c σ6) →
          G (d + 5) PP 107 23 [vr 2 0, vi (k : Int)] [] σ6 := by
        intro m
        induction m with
        | zero =>
          intro k σ6 hk hF6 g1 g2 g3
          have g3' : ∀ b, isB b → NuOK T b (psA σ6) (nuF σ6 b) (σ6 4 b 8) ∧ CNb T b σ6 := fun b hb => g3 b hb.1 (by have := hb.2; omega)
          obtain ⟨σ7, j1, j2, j3⟩ := c_effects (d := d) hT hW (hCW.keep hF6 (fun t i j q => by omega)) (fun b hb => (g3' b hb).2)
          have e1 : psA σ7 = psA σ6 := ps_keep j2 fun t i j q => by unfold Cef at q; omega
          have e3 : nuF σ7 = nuF σ6 := nu_keep j2 fun t i j q => by unfold Cef at q; omega
          have e4 : ∀ b, σ7 4 b 8 = σ6 4 b 8 := fun b => j2 _ _ _ (by unfold Cef; omega)
          refine b_107_23 ⟨fun _ => ⟨σ7, j1, homes 3 0 σ7 (by omega) (hF6.tr (j2.mono fun t i j q => by unfold Cef at q; omega)) (by rw [e1]; exact g1) (by rw [e1, e3]; exact j3) (fun b hb => ⟨by rw [e1, e3, e4]; exact (g3' b hb).1, (g3' b hb).2.keep j2 fun t i j q => by unfold Cef at q; omega⟩) (fun c c1 c2 => by omega)⟩, fun q => absurd q (by omega)⟩
        | succ m ih =>
          intro k σ6 hk hF6 g1 g2 g3
          have hkb : isB (k : Int) := by unfold isB; omega
          obtain ⟨σ7, j1, j2, j3, j4⟩ := c_number (d := d + 1) hT hW hkb (hCW.keep hF6 (fun t i j q => by omega)) (g2 k hkb)
          have e1 : psA σ7 = psA σ6 := ps_keep j2 fun t i j q => by unfold Cnu at q; omega
          have i1 := ih (k + 1) σ7 (by omega) (hF6.tr (j2.mono fun t i j q => by unfold Cnu at q; omega)) (by rw [e1]; exact g1) (fun b hb => by
            rw [e1]; exact (g2 b hb).cong2 fun x hx => j2 _ _ _ (by unfold Cnu; omega)) (fun c c1 c2 => by
            rw [e1]
            by_cases hc : c = k
            · subst hc
              refine ⟨j3, fun p hp hm => ?_, j4⟩
              rcases (NuOK_facts j3).2.2.1 p hp with z | ⟨_, _, z, _⟩
              · exact z.1
              · have := z.2.1; rw [hm] at this; cases this
            · obtain ⟨z1, z2, z3⟩ := g3 c c1 (by omega)
              have e7 : ∀ j : Int, σ7 47 c j = σ6 47 c j := fun j => j2 _ _ _ (by unfold Cnu; omega)
              have e8 : ∀ j : Int, σ7 48 c j = σ6 48 c j := fun j => j2 _ _ _ (by unfold Cnu; omega)
              refine ⟨?_, fun p hp hm => by rw [e7]; exact z2 p hp hm, fun p hp => by rw [e7, e8]; exact z3 p hp⟩
              rw [show nuF σ7 c = nuF σ6 c from funext fun p => e7 p, j2 _ _ _ (show ¬ Cnu k 4 c 8 by unfold Cnu; omega)]
              exact z1)
          rw [nat1] at i1
          exact b_107_23 ⟨fun q => absurd q (by omega), fun _ => ⟨hkb, σ7, j1, irI (by omega) (by omega), i1⟩⟩
      exact nums 3 0 σ5 (by omega) (p2.mono fun t i j q => by unfold Cps at q; omega) p3 p4 (fun c c1 c2 => by omega)
    · have hs := hS h1
      refine fin σ (σ 2 0 3) (Fm.rf σ) h1 rfl ?_
      rcases hs with hs | hs
      · exact Or.inl hs
      · exact Or.inr hs
  obtain ⟨v, σ', h1, w, rfl, h2⟩ := this
  exact ⟨w, σ', h1, h2⟩
end CSET
