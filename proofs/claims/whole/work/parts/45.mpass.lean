/-! ===== the model: unions, passes ===== -/
def MW (T : TP) (σ : SS) : Prop := MTx T σ ∧ ∀ b, isB b → MTr T b σ
theorem MW.keep {T : TP} (hT : TOKA T) {C : Nat → Int → Int → Prop} {σ σ' : SS} (h : MW T σ) (hF : Fm C σ σ') (hc : ∀ t i j, C t i j → t < 63 ∨ 71 < t) : MW T σ' :=
  ⟨h.1.keep hF (fun t i j q => by have := hc t i j q; omega), fun b hb => (h.2 b hb).keep (hT b hb).1 hF (fun t i j q => by have := hc t i j q; omega)⟩
/-- a forest in the row of those that stand for others -/
def FoA (b : Int) (σ : SS) (ρ h : Nat → Nat) : Prop := ∀ x, x < 42 → ρ x < 42 ∧ ρ (ρ x) = ρ x ∧ ∃ y : Nat, y < 42 ∧ σ 72 0 (42 * b + x) = 42 * b + y ∧ ρ y = ρ x ∧ (y = x ↔ ρ x = x) ∧ (y ≠ x → h y < h x)
def rl (ρ : Nat → Nat) : Nat → Int := fun x => (ρ x : Int)
def Cst (b : Int) : Nat → Int → Int → Prop := fun t _ j => t = 72 ∧ 42 * b ≤ j ∧ j < 42 * b + 42
theorem FoA.keep {b : Int} {C : Nat → Int → Int → Prop} {σ σ' : SS} {ρ h : Nat → Nat} (hf : FoA b σ ρ h) (hF : Fm C σ σ') (hc : ∀ t i j, C t i j → Cst b t i j → False) : FoA b σ' ρ h := by
  intro x hx
  rw [hF 72 0 (42 * b + x) fun q => hc _ _ _ q (by unfold Cst; omega)]
  exact hf x hx
def psM (σ : SS) : Int → Int := fun c => σ 73 0 c
def EpA (T : TP) (b : Int) (ps : Int → Int) (k x y : Nat) : Prop := (x < k ∧ EdP T b ps x y) ∨ (y < k ∧ EdP T b ps y x)
section MPASS
variable {T : TP} {b : Int} {d : Nat} {σ : SS}
theorem m_root (hb : isB b) {ρ h : Nat → Nat} (hf : FoA b σ ρ h) {x : Nat} (hx : x < 42) : Rn (d + 1) 23 [vr 62 0, vi (42 * b + x)] σ (vi (42 * b + ρ x)) σ := by
  have hb' := hb
  unfold isB at hb'
  have loop : ∀ (m y : Nat), h y < m → y < 42 → ρ y = ρ x → G (d + 0) (fun v σ' => v = vi (42 * b + ρ x) ∧ σ' = σ) 23 2 [vr 62 0, vu, vi (42 * b + (y : Int))] [] σ := by
    intro m
    induction m with
    | zero => intro y h1; omega
    | succ m ih =>
      intro y h1 h2 h3
      obtain ⟨r1, r2, z, z1, z2, z3, z4, z5⟩ := hf y h2
      refine b_23_2 ⟨by omega, ?_⟩
      rw [z2]
      refine ⟨fun q => ⟨?_, rfl⟩, fun q => ⟨by omega, ?_⟩⟩
      · have e : z = y := by omega
        rw [← h3, z4.mp e]
      · exact ih z (by have := z5 (by omega); omega) z1 (by rw [z3, h3])
  exact G_rn rfl (b_23_0 (loop (h x + 1) x (by omega) hx rfl))
theorem m_unite (hb : isB b) {ρ h : Nat → Nat} (hf : FoA b σ ρ h) {a c : Nat} (ha : a < 42) (hc : c < 42) : ∃ σ', Rn (d + 2) 24 [vr 62 0, vi (42 * b + a), vi (42 * b + c)] σ vu σ' ∧ Fm (Cst b) σ σ' ∧ ∃ ρ' h', FoA b σ' ρ' h' ∧ ∀ x, x < 42 → rl ρ' x = if rl ρ x = rl ρ a then rl ρ c else rl ρ x := by
  have hb' := hb
  unfold isB at hb'
  obtain ⟨a1, a2, -⟩ := hf a ha
  obtain ⟨c1, c2, -⟩ := hf c hc
  let σ1 := up σ 72 0 (42 * b + ρ a) (42 * b + ρ c)
  have s1e : σ1 72 0 (42 * b + (ρ a : Int)) = 42 * b + ρ c := up_eq ⟨rfl, rfl, rfl⟩
  have s1n : ∀ x : Nat, x ≠ ρ a → σ1 72 0 (42 * b + (x : Int)) = σ 72 0 (42 * b + x) := fun x q => up_ne (by omega)
  refine ⟨σ1, G_rn rfl (b_24_0 ⟨_, σ, m_root (d := d) hb hf ha, _, σ, m_root (d := d) hb hf hc, by omega, fun s1 e => ⟨rfl, e⟩⟩), (Fm.rf σ).up (by unfold Cst; omega), fun x => if ρ x = ρ a then ρ c else ρ x, fun x => if ρ x = ρ a ∧ ρ a ≠ ρ c then h x + (h (ρ c) + 1) else h x, ?_, fun x hx => ?_⟩
  · intro x hx
    obtain ⟨x1, x2, y, y1, y2, y3, y4, y5⟩ := hf x hx
    by_cases hac : ρ a = ρ c
    · have same : ∀ z, (if ρ z = ρ a then ρ c else ρ z) = ρ z := fun z => by split <;> omega
      simp only [same]
      refine ⟨x1, x2, ?_⟩
      by_cases hxa : x = ρ a
      · refine ⟨ρ c, c1, ?_, ?_, ?_, fun q => ?_⟩
        · rw [hxa]; exact s1e
        · rw [c2, hxa, a2, hac]
        · rw [hxa, a2]; omega
        · omega
      · refine ⟨y, y1, ?_, y3, y4, fun q => ?_⟩
        · rw [s1n x hxa]; exact y2
        · rw [if_neg (by omega), if_neg (by omega)]; exact y5 q
    · by_cases hxa : x = ρ a
      · subst hxa
        simp only [a2, c2, if_true, hac, ne_eq, not_false_eq_true, and_self, if_neg (fun q : ρ c = ρ a => hac q.symm)]
        refine ⟨c1, trivial, ρ c, c1, s1e, ?_, ?_, fun q => ?_⟩
        · rw [c2, if_neg (fun q => hac q.symm)]
        · constructor
          · intro q; exact q
          · intro q; exact q
        · rw [c2, if_neg (fun q => hac q.1.symm)]; omega
      · have hst : σ1 72 0 (42 * b + x) = 42 * b + y := by rw [s1n x hxa]; exact y2
        by_cases hxr : ρ x = ρ a
        · simp only [hxr, if_true, c2, if_neg (fun q : ρ c = ρ a => hac q.symm)]
          refine ⟨c1, trivial, y, y1, hst, ?_, ?_, fun q => ?_⟩
          · rw [y3, if_pos hxr]
          · constructor
            · intro q; have := y4.mp q; omega
            · intro q
              exfalso
              rw [← q, c2] at hxr
              exact hac hxr.symm
          · rw [y3, if_pos ⟨hxr, hac⟩, if_pos ⟨trivial, hac⟩]; have := y5 q; omega
        · simp only [if_neg hxr, x2]
          refine ⟨x1, trivial, y, y1, hst, ?_, y4, fun q => ?_⟩
          · rw [y3, if_neg hxr]
          · rw [y3, if_neg (fun w => hxr w.1), if_neg (fun w => hxr w.1)]; exact y5 q
  · unfold rl
    show (((if ρ x = ρ a then ρ c else ρ x) : Nat) : Int) = _
    by_cases q : ρ x = ρ a
    · rw [if_pos q, if_pos (by omega)]
    · rw [if_neg q, if_neg (by omega)]
theorem m_uniteE (hb : isB b) {ρ h : Nat → Nat} (hf : FoA b σ ρ h) {a c : Nat} (ha : a < 42) (hc : c < 42) {E : Nat → Nat → Prop} (hE : ∀ a b, E a b → a < 42 ∧ b < 42) (hL : EqL (rl ρ) E) : ∃ σ', Rn (d + 2) 24 [vr 62 0, vi (42 * b + a), vi (42 * b + c)] σ vu σ' ∧ Fm (Cst b) σ σ' ∧ ∃ ρ' h', FoA b σ' ρ' h' ∧ EqL (rl ρ') (fun x y => E x y ∨ (x = a ∧ y = c) ∨ (x = c ∧ y = a)) := by
  obtain ⟨σ', h1, h2, ρ', h', h3, h4⟩ := m_unite (d := d) hb hf ha hc
  refine ⟨σ', h1, h2, ρ', h', h3, (hL.add hE hc ha h4).cong (fun x y w => ?_) (fun x y w => ?_)⟩
  · rcases w with w | w | w
    · exact Or.inl w
    · exact Or.inr (Or.inr w)
    · exact Or.inr (Or.inl w)
  · rcases w with w | w | w
    · exact Or.inl w
    · exact Or.inr (Or.inr w)
    · exact Or.inr (Or.inl w)
theorem ps_keepM {C : Nat → Int → Int → Prop} {σ σ' : SS} (hF : Fm C σ σ') (hc : ∀ t i j, C t i j → t ≠ 73) : psM σ' = psM σ := by
  funext c
  exact hF 73 0 c fun q => hc _ _ _ q rfl
/-- uniteAll -/
theorem m_uniteAll (hT : TOKA T) (hW : welA T) (hb : isB b) (hM : MW T σ) : ∃ σ', Rn (d + 3) 61 [vr 62 0, vi b] σ vu σ' ∧ Fm (Cst b) σ σ' ∧ ∃ ρ h, FoA b σ' ρ h ∧ EqL (rl ρ) (EdA T b (psM σ)) := by
  have hn := (hT b hb).1
  have hg := (hW b hb).1
  have hb' := hb
  unfold isB at hb'
  let PP : AV → SS → Prop := fun v σ' => v = vu ∧ Fm (Cst b) σ σ' ∧ ∃ ρ h, FoA b σ' ρ h ∧ EqL (rl ρ) (EdA T b (psM σ))
  have hMk : ∀ σ1, Fm (Cst b) σ σ1 → MW T σ1 ∧ psM σ1 = psM σ := fun σ1 h => ⟨hM.keep hT h (fun t i j q => by unfold Cst at q; omega), ps_keepM h (fun t i j q => by unfold Cst at q; omega)⟩
  have hlt : ∀ k x y, EpA T b (psM σ) k x y → x < 42 ∧ y < 42 := fun k x y q => by
    rcases q with ⟨_, q⟩ | ⟨_, q⟩
    · have := ed_lt hT hW hb q; omega
    · have := ed_lt hT hW hb q; omega
  have loop : ∀ (m k : Nat) (σ1 : SS), k + m = tN T b → Fm (Cst b) σ σ1 → (∃ ρ h, FoA b σ1 ρ h ∧ EqL (rl ρ) (EpA T b (psM σ) k)) → G (d + 2) PP 61 24 [vr 62 0, vi b, vi (40 * b + (k : Int)), vu] [] σ1 := by
    intro m
    induction m with
    | zero =>
      intro k σ1 hk hF hL
      have e65 := ((hMk σ1 hF).1.1 b hb).1
      obtain rfl : k = tN T b := by omega
      obtain ⟨ρ, h, h1, h2⟩ := hL
      refine b_61x_24 ⟨irI (by omega) (by omega), hb, by rw [e65]; exact irI (by omega) (by omega), fun _ => ⟨rfl, hF, ρ, h, h1, h2.cong (fun x y w => ?_) (fun x y w => ?_)⟩, fun q => absurd q (by rw [e65]; omega)⟩
      · rcases w with w | w
        · exact Or.inl w.2
        · exact Or.inr w.2
      · rcases w with w | w
        · exact Or.inl ⟨w.1.1, w⟩
        · exact Or.inr ⟨w.1.1, w⟩
    | succ m ih =>
      intro k σ1 hk hF hL
      obtain ⟨hM1, hps⟩ := hMk σ1 hF
      have e65 := (hM1.1 b hb).1
      have hkn : k < tN T b := by omega
      obtain ⟨ρ, h, hf, hL⟩ := hL
      have i1 := ih (k + 1)
      rw [nat1, show (40 * b + ((k : Int) + 1)) = 40 * b + k + 1 by omega] at i1
      have i1' : ∀ σ2, Fm (Cst b) σ σ2 → (∃ ρ h, FoA b σ2 ρ h ∧ EqL (rl ρ) (EpA T b (psM σ) (k + 1))) → G (d + 2) PP 61 141 [vr 62 0, vi b, vi (40 * b + (k : Int)), vu] [] σ2 := fun σ2 g1 g2 => b_61x_141 ⟨irI (by omega) (by omega), i1 σ2 (by omega) g1 g2⟩
      -- no box: nothing is tied
      have skip : ¬ bxA T b k → G (d + 2) PP 61 141 [vr 62 0, vi b, vi (40 * b + (k : Int)), vu] [] σ1 := fun q => i1' σ1 hF ⟨ρ, h, hf, hL.cong (fun x y w => by
        rcases w with w | w
        · exact Or.inl ⟨by omega, w.2⟩
        · exact Or.inr ⟨by omega, w.2⟩) (fun x y w => by
        rcases w with ⟨w1, w2⟩ | ⟨w1, w2⟩
        · rcases Nat.eq_or_lt_of_le (Nat.le_of_lt_succ w1) with z | z
          · subst z; exact absurd w2.1 q
          · exact Or.inl ⟨z, w2⟩
        · rcases Nat.eq_or_lt_of_le (Nat.le_of_lt_succ w1) with z | z
          · subst z; exact absurd w2.1 q
          · exact Or.inr ⟨z, w2⟩)⟩
      refine b_61x_24 ⟨irI (by omega) (by omega), hb, by rw [e65]; exact irI (by omega) (by omega), fun q => absurd q (by rw [e65]; omega), fun _ => ⟨by omega, fun q => ?_, fun q => ?_⟩⟩
      · refine skip fun w => ?_
        rw [(m_at hT hb (hM1.2 b hb) hkn w.2.1).2.1] at q
        have := kos_ge hg hkn w.2.1
        omega
      have hm : nmA (tS T b) k = false := by
        cases h : nmA (tS T b) k
        · rfl
        · rw [((hM1.2 b hb) k hkn).1] at q; unfold whA at q; rw [if_pos h] at q; omega
      obtain ⟨a1, a2, a3, a4, a5, a6⟩ := m_at hT hb (hM1.2 b hb) hkn hm
      refine ⟨_, σ1, m_kindAt (d := d) hT hb hM1.1 hg (hM1.2 b hb) hkn hm, fun w => skip fun z => w z.2.2, fun hkd => ?_⟩
      have hbx : bxA T b k := ⟨hkn, hm, hkd⟩
      have irs : ∀ z : Nat, z < 42 → (ir (42 * b) ∧ ir (42 * b + (40 * b + (z : Int))) ∧ ir (40 * b) ∧ ir (42 * b + (40 * b + (z : Int)) - 40 * b)) := fun z hz => ⟨irI (by omega) (by omega), irI (by omega) (by omega), irI (by omega) (by omega), irI (by omega) (by omega)⟩
      have nd : ∀ z : Nat, 42 * b + (40 * b + (z : Int)) - 40 * b = 42 * b + z := fun z => by omega
      have irs2 : ∀ z : Nat, z < 42 → (ir (42 * b) ∧ ir (42 * b + (40 * b + (z : Int))) ∧ ir (40 * b) ∧ ir (42 * b + (z : Int))) := fun z hz => ⟨irI (by omega) (by omega), irI (by omega) (by omega), irI (by omega) (by omega), irI (by omega) (by omega)⟩
      refine ⟨irs k (by omega), a1, ?_⟩
      rw [nd k, a2]
      -- behind the switch
      have mid : ∀ σ2, Fm (Cst b) σ1 σ2 → (∃ ρ h, FoA b σ2 ρ h ∧ EqL (rl ρ) (fun x y => EpA T b (psM σ) k x y ∨ (x = k ∧ EdQ T b (psM σ) k y) ∨ (y = k ∧ EdQ T b (psM σ) k x))) → G (d + 2) PP 61 128 [vr 62 0, vi b, vi (40 * b + (k : Int)), vi (42 * b + (k : Int))] [] σ2 := by
        rintro σ2 hF2 ⟨ρ2, h2, hf2, hL2⟩
        refine b_61x_128 ⟨irI (by omega) (by omega), fun w => i1' σ2 (hF.tr hF2) ⟨ρ2, h2, hf2, hL2.cong (fun x y z => ?_) (fun x y z => ?_)⟩, fun w => ⟨irI (by omega) (by omega), irI (by omega) (by omega), ?_⟩⟩
        · rcases z with (z | z) | ⟨rfl, z⟩ | ⟨rfl, z⟩
          · exact Or.inl ⟨by omega, z.2⟩
          · exact Or.inr ⟨by omega, z.2⟩
          · exact Or.inl ⟨by omega, EdP_iff.mpr (Or.inl z)⟩
          · exact Or.inr ⟨by omega, EdP_iff.mpr (Or.inl z)⟩
        · rcases z with ⟨z1, z2⟩ | ⟨z1, z2⟩
          · rcases Nat.eq_or_lt_of_le (Nat.le_of_lt_succ z1) with u | u
            · subst u
              rcases EdP_iff.mp z2 with v | v
              · exact Or.inr (Or.inl ⟨rfl, v⟩)
              · exfalso; apply w; omega
            · exact Or.inl (Or.inl ⟨u, z2⟩)
          · rcases Nat.eq_or_lt_of_le (Nat.le_of_lt_succ z1) with u | u
            · subst u
              rcases EdP_iff.mp z2 with v | v
              · exact Or.inr (Or.inr ⟨rfl, v⟩)
              · exfalso; apply w; omega
            · exact Or.inl (Or.inr ⟨u, z2⟩)
        · have hk0 : k = 0 := by omega
          obtain ⟨σ3, j1, j2, ρ3, h3, j3, j4⟩ := m_uniteE (d := d) hb hf2 (show k < 42 by omega) (show 41 < 42 by omega) (fun x y z => by
            rcases z with z | ⟨rfl, z⟩ | ⟨rfl, z⟩
            · exact hlt k x y z
            · have := ed_lt hT hW hb (EdP_iff.mpr (Or.inl z)); omega
            · have := ed_lt hT hW hb (EdP_iff.mpr (Or.inl z)); omega) hL2
          refine ⟨σ3, j1, i1' σ3 ((hF.tr hF2).tr j2) ⟨ρ3, h3, j3, j4.cong (fun x y z => ?_) (fun x y z => ?_)⟩⟩
          · rcases z with ((z | z) | ⟨rfl, z⟩ | ⟨rfl, z⟩) | ⟨rfl, rfl⟩ | ⟨rfl, rfl⟩
            · exact Or.inl ⟨by omega, z.2⟩
            · exact Or.inr ⟨by omega, z.2⟩
            · exact Or.inl ⟨by omega, EdP_iff.mpr (Or.inl z)⟩
            · exact Or.inr ⟨by omega, EdP_iff.mpr (Or.inl z)⟩
            · exact Or.inl ⟨by omega, EdP_iff.mpr (Or.inr ⟨hbx, hk0, rfl⟩)⟩
            · exact Or.inr ⟨by omega, EdP_iff.mpr (Or.inr ⟨hbx, hk0, rfl⟩)⟩
          · rcases z with ⟨z1, z2⟩ | ⟨z1, z2⟩
            · rcases Nat.eq_or_lt_of_le (Nat.le_of_lt_succ z1) with u | u
              · subst u
                rcases EdP_iff.mp z2 with v | v
                · exact Or.inl (Or.inr (Or.inl ⟨rfl, v⟩))
                · exact Or.inr (Or.inl ⟨rfl, v.2.2⟩)
              · exact Or.inl (Or.inl (Or.inl ⟨u, z2⟩))
            · rcases Nat.eq_or_lt_of_le (Nat.le_of_lt_succ z1) with u | u
              · subst u
                rcases EdP_iff.mp z2 with v | v
                · exact Or.inl (Or.inr (Or.inr ⟨rfl, v⟩))
                · exact Or.inr (Or.inr ⟨v.2.2, rfl⟩)
              · exact Or.inl (Or.inl (Or.inr ⟨u, z2⟩))
      have none : (∀ y, ¬ EdQ T b (psM σ) k y) → G (d + 2) PP 61 128 [vr 62 0, vi b, vi (40 * b + (k : Int)), vi (42 * b + (k : Int))] [] σ1 := fun q => mid σ1 (Fm.rf σ1) ⟨ρ, h, hf, hL.cong (fun x y w => Or.inl w) (fun x y w => by
        rcases w with w | ⟨_, w⟩ | ⟨_, w⟩
        · exact w
        · exact absurd w (q _)
        · exact absurd w (q _))⟩
      have one : ∀ c : Nat, c < 42 → (∀ y, EdQ T b (psM σ) k y ↔ y = c) → ∃ σ2, Rn (d + 2) 24 [vr 62 0, vi (42 * b + (k : Int)), vi (42 * b + (c : Int))] σ1 vu σ2 ∧ G (d + 2) PP 61 128 [vr 62 0, vi b, vi (40 * b + (k : Int)), vi (42 * b + (k : Int))] [] σ2 := by
        intro c hc hq
        obtain ⟨σ2, j1, j2, ρ2, h2, j3, j4⟩ := m_uniteE (d := d) hb hf (show k < 42 by omega) hc (hlt k) hL
        refine ⟨σ2, j1, mid σ2 j2 ⟨ρ2, h2, j3, j4.cong (fun x y w => ?_) (fun x y w => ?_)⟩⟩
        · rcases w with w | ⟨rfl, rfl⟩ | ⟨rfl, rfl⟩
          · exact Or.inl w
          · exact Or.inr (Or.inl ⟨rfl, (hq _).mpr rfl⟩)
          · exact Or.inr (Or.inr ⟨rfl, (hq _).mpr rfl⟩)
        · rcases w with w | ⟨rfl, w⟩ | ⟨rfl, w⟩
          · exact Or.inl w
          · exact Or.inr (Or.inl ⟨rfl, (hq _).mp w⟩)
          · exact Or.inr (Or.inr ⟨(hq _).mp w, rfl⟩)
      have hbk := bx_kos hW hb hbx
      refine ⟨fun q => absurd q (by omega), fun h1 => ⟨irI (by omega) (by omega), irI (by omega) (by omega), ?_⟩, fun h2 => ?_, fun h3 => none fun y w => ?_, fun q => absurd q (by omega), fun q => absurd q (by omega), fun q => absurd q (by omega), fun h7 => ⟨a1, ?_⟩, fun h8 => ⟨a1, ?_⟩, fun h9 => ?_, trivial⟩
      · exact one 40 (by omega) (fun y => by
          constructor
          · rintro ⟨_, w | w | w | w | w⟩
            · exact w.2
            all_goals omega
          · intro w; exact ⟨hbx, Or.inl ⟨h1, w⟩⟩)
      · have h2' : kos (tS T b k) = 2 := by omega
        obtain ⟨q, q1, q2, q3, q4, q5, q6⟩ := wel_let hW hb hkn hm h2'
        have hqn : q < tN T b := by omega
        have k1 := kid1 hg hqn q3 (by rw [q4]; decide)
        obtain ⟨c1, c2, c3, c4, c5, c6⟩ := m_at hT hb (hM1.2 b hb) hqn q3
        have e : mbA b (bnA (tN T b) (tS T b) k) = 40 * b + (q : Int) := by rw [q1]; unfold mbA; rw [if_neg (by omega)]
        refine ⟨_, σ1, m_binder (d := d + 1) hT hb hM1.1 hg (hM1.2 b hb) hkn, ?_⟩
        rw [e, c3, nd]
        refine ⟨c1, irs2 (c0A (tS T b) q) (by omega), one (c0A (tS T b) q) (by omega) (fun y => ?_)⟩
        unfold EdQ
        rw [q1, Int.toNat_natCast]
        constructor
        · rintro ⟨_, w | w | w | w | w⟩ <;> omega
        · intro w; exact ⟨hbx, Or.inr (Or.inl ⟨h2', by omega⟩)⟩
      · obtain ⟨_, u | u | u | u | u⟩ := w <;> omega
      · have h7' : kos (tS T b k) = 7 := by omega
        have k2 := kid2 hg hkn hm (by rw [h7']; decide)
        have k3 := kids3 hg hkn hm (by rw [h7']; decide)
        rw [a4 (by rw [h7']; decide), nd]
        obtain ⟨σ2, j1, j2, ρ2, h2, j3, j4⟩ := m_uniteE (d := d) hb hf (show k < 42 by omega) (show c1A (tN T b) (tS T b) k < 42 by omega) (hlt k) hL
        have e70 : σ2 70 0 (40 * b + (k : Int)) = 40 * b + c2A (tN T b) (tS T b) k := by
          rw [j2 _ _ _ (by unfold Cst; omega)]; exact a5 (by rw [h7']; decide)
        obtain ⟨σ3, g1, g2, ρ3, h3, g3, g4⟩ := m_uniteE (d := d) hb j3 (show k < 42 by omega) (show c2A (tN T b) (tS T b) k < 42 by omega) (fun x y w => by
          rcases w with w | ⟨rfl, rfl⟩ | ⟨rfl, rfl⟩
          · exact hlt k x y w
          · show _ ∧ c1A (tN T b) (tS T b) _ < 42; omega
          · show c1A (tN T b) (tS T b) _ < 42 ∧ _; omega) j4
        refine ⟨irs2 (c1A (tN T b) (tS T b) k) (by omega), σ2, j1, a1, ?_⟩
        rw [e70, nd]
        refine ⟨irs2 (c2A (tN T b) (tS T b) k) (by omega), σ3, g1, mid σ3 (j2.tr g2) ⟨ρ3, h3, g3, g4.cong (fun x y w => ?_) (fun x y w => ?_)⟩⟩
        · have m1 : EdQ T b (psM σ) k (c1A (tN T b) (tS T b) k) := ⟨hbx, Or.inr (Or.inr (Or.inl ⟨h7', Or.inl rfl⟩))⟩
          have m2 : EdQ T b (psM σ) k (c2A (tN T b) (tS T b) k) := ⟨hbx, Or.inr (Or.inr (Or.inl ⟨h7', Or.inr rfl⟩))⟩
          rcases w with (w | ⟨rfl, rfl⟩ | ⟨rfl, rfl⟩) | ⟨rfl, rfl⟩ | ⟨rfl, rfl⟩
          · exact Or.inl w
          · exact Or.inr (Or.inl ⟨rfl, m1⟩)
          · exact Or.inr (Or.inr ⟨rfl, m1⟩)
          · exact Or.inr (Or.inl ⟨rfl, m2⟩)
          · exact Or.inr (Or.inr ⟨rfl, m2⟩)
        · have inv : ∀ z, EdQ T b (psM σ) k z → z = c1A (tN T b) (tS T b) k ∨ z = c2A (tN T b) (tS T b) k := by
            rintro z ⟨_, u | u | u | u | u⟩
            · omega
            · omega
            · exact u.2
            · omega
            · omega
          rcases w with w | ⟨rfl, w⟩ | ⟨rfl, w⟩
          · exact Or.inl (Or.inl w)
          · rcases inv _ w with z | z
            · exact Or.inl (Or.inr (Or.inl ⟨rfl, z⟩))
            · exact Or.inr (Or.inl ⟨rfl, z⟩)
          · rcases inv _ w with z | z
            · exact Or.inl (Or.inr (Or.inr ⟨z, rfl⟩))
            · exact Or.inr (Or.inr ⟨z, rfl⟩)
      · have h8' : kos (tS T b k) = 8 := by omega
        have k2 := kid2 hg hkn hm (by rw [h8']; decide)
        rw [a4 (by rw [h8']; decide), nd]
        exact ⟨irs2 (c1A (tN T b) (tS T b) k) (by omega), one (c1A (tN T b) (tS T b) k) (by omega) (fun y => by
          constructor
          · rintro ⟨_, w | w | w | w | w⟩
            · omega
            · omega
            · omega
            · exact w.2
            · omega
          · intro w; exact ⟨hbx, Or.inr (Or.inr (Or.inr (Or.inl ⟨h8', w⟩)))⟩)⟩
      · have h9' : kos (tS T b k) = 9 := by omega
        have k1 := kid1 hg hkn hm (by rw [h9']; decide)
        have hof := of_B hg hkn hm (kos_9.mp h9')
        have e66 : σ1 66 0 (40 * b + (k : Int) + 1) = tS T b ((k : Int) + 1) := by
          rw [show (40 * b + (k : Int) + 1) = 40 * b + ((k : Int) + 1) by omega]
          exact (hM1.1 b hb).2.2.2 _ (by omega) (by omega)
        rw [e66]
        have ho := hof.1
        rw [show tS T b ((k : Int) + 1) - 48 = ofA (tS T b) k from rfl]
        have hpe : σ1 73 0 (ofA (tS T b) k) = psM σ (ofA (tS T b) k) := congrFun hps _
        rw [hpe]
        refine ⟨⟨irI (by omega) (by omega), by omega, by unfold isB at ho; exact irI (by omega) (by omega)⟩, ho, fun q => none fun y w => ?_, fun q => ⟨a1, ?_⟩⟩
        · obtain ⟨_, u | u | u | u | u⟩ := w
          · omega
          · omega
          · omega
          · omega
          · exact u.2.1 q
        · rw [a3, nd]
          exact ⟨irs2 (c0A (tS T b) k) (by omega), one (c0A (tS T b) k) (by omega) (fun y => by
            constructor
            · rintro ⟨_, w | w | w | w | w⟩
              · omega
              · omega
              · omega
              · omega
              · exact w.2.2
            · intro w; exact ⟨hbx, Or.inr (Or.inr (Or.inr (Or.inr ⟨h9', q, w⟩)))⟩)⟩
  have init : ∀ (m k : Nat) (σ1 : SS), k + m = 42 → Fm (Cst b) σ σ1 → (∀ x : Nat, x < k → σ1 72 0 (42 * b + x) = 42 * b + x) → G (d + 2) PP 61 2 [vr 62 0, vi b, vi (k : Int), vu] [] σ1 := by
    intro m
    induction m with
    | zero =>
      intro k σ1 hk hF hl
      refine b_61x_2 ⟨fun _ => ⟨irI (by omega) (by omega), ?_⟩, fun q => absurd q (by omega)⟩
      have := loop (tN T b) 0 σ1 (by omega) hF ⟨id, fun _ => 0, fun x hx => ⟨hx, rfl, x, hx, hl x (by omega), rfl, ⟨fun _ => rfl, fun _ => rfl⟩, fun q => absurd rfl q⟩, EqL.init.cong (fun x y w => w.elim) (fun x y w => by rcases w with ⟨w, _⟩ | ⟨w, _⟩ <;> omega)⟩
      simpa using this
    | succ m ih =>
      intro k σ1 hk hF hl
      have i1 := ih (k + 1)
      rw [nat1] at i1
      have z1 : ir (42 * b) := irI (by omega) (by omega)
      have z2 : ir (42 * b + (k : Int)) := irI (by omega) (by omega)
      refine b_61x_2 ⟨fun q => absurd q (by omega), fun _ => ⟨z1, z2, z1, z2, by omega, fun σ2 e2 => ⟨irI (by omega) (by omega), i1 σ2 (by omega) (by rw [e2]; exact hF.up (by unfold Cst; omega)) fun x hx => ?_⟩⟩⟩
      by_cases q : x = k
      · subst q; rw [e2, up_eq ⟨rfl, rfl, rfl⟩]
      · rw [e2, up_ne (by omega)]; exact hl x (by omega)
  have : Ok (d + 3) 61 [vr 62 0, vi b] σ PP := G_ok rfl (b_61x_0 (init 42 0 σ (by omega) (Fm.rf σ) (fun x hx => by omega)))
  obtain ⟨v, σ', h1, rfl, h2, h3⟩ := this
  exact ⟨σ', h1, h2, h3⟩
end MPASS
