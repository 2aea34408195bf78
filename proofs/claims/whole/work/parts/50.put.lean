/-- a box that holds n is put into region r -/
def PtS (σ : SS) (r : Nat) (n : Int) (σ' : SS) : Prop := ∃ w bs ws : Int,
  ((10 ≤ n ∧ σ 60 0 r = 1 ∧ w = 2 ∧ bs = σ 32 0 10 + 1 ∧ ws = σ 32 0 5 + σ 59 0 r + 2) ∨ (¬ (10 ≤ n ∧ σ 60 0 r = 1) ∧ w = σ 60 0 r ∧ bs = σ 32 0 10 ∧ ws = σ 32 0 5 + σ 60 0 r)) ∧
  Fm (fun t _ j => t = 58 ∨ t = 59 ∨ t = 60 ∨ (t = 32 ∧ 4 ≤ j ∧ j ≤ 12 ∧ j ≠ 8 ∧ j ≠ 9)) σ σ' ∧ σ' 58 0 (σ 32 0 6) = n ∧ (∀ i, i ≠ σ 32 0 6 → σ' 58 0 i = σ 58 0 i) ∧ σ' 32 0 6 = σ 32 0 6 + 1 ∧ σ' 32 0 12 = σ 32 0 12 + (if n < 10 then 1 else 2) ∧
  σ' 60 0 r = w ∧ (∀ i : Int, i ≠ r → σ' 60 0 i = σ 60 0 i) ∧ σ' 32 0 10 = bs ∧ σ' 59 0 r = σ 59 0 r + 1 ∧ (∀ i : Int, i ≠ r → σ' 59 0 i = σ 59 0 i) ∧ σ' 32 0 4 = σ 32 0 4 + 1 ∧ σ' 32 0 5 = ws ∧ σ' 32 0 7 = max (σ 32 0 7) (σ 32 0 4 + 1) ∧ σ' 32 0 11 = max (σ 32 0 11) ws
section PUT
variable {d : Nat} {σ τ : SS} {o : Nat} {B : Int}
theorem c_put (h : StI σ o B) (ho : o ≤ 546) {r : Nat} (hr : r < o) {n : Int} (hn : 0 ≤ n ∧ n ≤ 999) (hm : σ 32 0 6 < 300) : ∃ σ', Rn (d + 2) 130 [vr 32 0, vi (r : Int), vi n] σ (vi (σ 32 0 6)) σ' ∧ PtS σ r n σ' := by
  have hg := h.rng
  obtain ⟨h1, h2, h3, h4, h5, h6, h7, h8, h9, h10, h11, h12, h13, h14⟩ := h
  have hr1 := h4 r hr
  have hr2 := hg.2.2 r hr
  have : Ok (d + 2) 130 [vr 32 0, vi (r : Int), vi n] σ (fun v σ' => v = vi (σ 32 0 6) ∧ PtS σ r n σ') := by
    refine G_ok rfl (b_130x_0 fun σ1 e1 => ?_)
    rw [us_in ⟨by omega, by omega⟩] at e1
    have a6 : σ1 32 0 6 = σ 32 0 6 := by rw [e1, up_ne (by omega)]
    rw [a6]
    refine ⟨irI (by omega) (by omega), fun σ2 e2 => ?_⟩
    have F2 : ∀ t j, (t ≠ 58 ∧ (t ≠ 32 ∨ j ≠ 6)) → σ2 t 0 j = σ t 0 j := fun t j q => by rw [e2, up_ne (by omega), e1, up_ne (by omega)]
    -- the last block
    have fin : ∀ (σ3 : SS) (w bs ws0 : Int), Fm (fun t _ j => t = 60 ∨ (t = 32 ∧ (j = 5 ∨ j = 10 ∨ j = 12))) σ2 σ3 → σ3 60 0 r = w → (∀ i : Int, i ≠ r → σ3 60 0 i = σ 60 0 i) → σ3 32 0 10 = bs → σ3 32 0 5 = ws0 → σ3 32 0 12 = σ 32 0 12 + (if n < 10 then 1 else 2) → (w = 1 ∨ w = 2) → 0 ≤ ws0 → ws0 ≤ 1000 →
        ((10 ≤ n ∧ σ 60 0 r = 1 ∧ w = 2 ∧ bs = σ 32 0 10 + 1 ∧ ws0 + w = σ 32 0 5 + σ 59 0 r + 2) ∨ (¬ (10 ≤ n ∧ σ 60 0 r = 1) ∧ w = σ 60 0 r ∧ bs = σ 32 0 10 ∧ ws0 + w = σ 32 0 5 + σ 60 0 r)) →
        G (d + 1) (fun v σ' => v = vi (σ 32 0 6) ∧ PtS σ r n σ') 130 60 [vr 32 0, vi (r : Int), vu, vi (σ 32 0 6), vu, vi (σ 59 0 r)] [] σ3 := by
      intro σ3 w bs ws0 f g1 g2 g3 g4 g5 gw gl gh hd
      refine b_130x_60 ⟨irI (by omega) (by omega), fun σ4 e4 => ?_⟩
      rw [us_in ⟨by omega, by omega⟩] at e4
      have k4 : σ4 32 0 4 = σ 32 0 4 := by rw [e4, up_ne (by omega), f _ _ _ (by omega), F2 _ _ (by omega)]
      rw [k4]
      refine ⟨irI (by omega) (by omega), fun σ5 e5 => ?_⟩
      have k5 : σ5 32 0 5 = ws0 := by rw [e5, up_ne (by omega), e4, up_ne (by omega)]; exact g4
      have k60 : rg 546 (σ5 60 0) (r : Int) = w := by rw [rgN (by omega), e5, up_ne (by omega), e4, up_ne (by omega)]; exact g1
      rw [k5, k60]
      refine ⟨irI (by omega) (by omega), fun σ6 e6 σ7 e7 σ8 e8 => ⟨rfl, w, bs, ws0 + w, hd, ?_⟩⟩
      have k7 : σ6 32 0 7 = σ 32 0 7 := by rw [e6, up_ne (by omega), e5, up_ne (by omega), e4, up_ne (by omega), f _ _ _ (by omega), F2 _ _ (by omega)]
      have k44 : σ6 32 0 4 = σ 32 0 4 + 1 := by rw [e6, up_ne (by omega), e5, up_eq ⟨rfl, rfl, rfl⟩]
      rw [k7, k44] at e7
      have k11 : σ7 32 0 11 = σ 32 0 11 := by rw [e7, up_ne (by omega), e6, up_ne (by omega), e5, up_ne (by omega), e4, up_ne (by omega), f _ _ _ (by omega), F2 _ _ (by omega)]
      have k55 : σ7 32 0 5 = ws0 + w := by rw [e7, up_ne (by omega), e6, up_eq ⟨rfl, rfl, rfl⟩]
      rw [k11, k55] at e8
      have last : ∀ t j, (t ≠ 59 ∧ (t ≠ 32 ∨ (j ≠ 4 ∧ j ≠ 5 ∧ j ≠ 7 ∧ j ≠ 11))) → σ8 t 0 j = σ3 t 0 j := fun t j q => by rw [e8, up_ne (by omega), e7, up_ne (by omega), e6, up_ne (by omega), e5, up_ne (by omega), e4, up_ne (by omega)]
      refine ⟨?_, ?_, fun i hi => ?_, ?_, ?_, ?_, fun i hi => ?_, ?_, ?_, fun i hi => ?_, ?_, ?_, ?_, ?_⟩
      · have f12 : Fm (fun t _ j => t = 58 ∨ t = 59 ∨ t = 60 ∨ (t = 32 ∧ 4 ≤ j ∧ j ≤ 12 ∧ j ≠ 8 ∧ j ≠ 9)) σ σ2 := by rw [e2, e1]; exact ((Fm.rf σ).up (Or.inl rfl)).up (by omega)
        have f3 := f12.tr (f.mono (C' := fun t _ j => t = 58 ∨ t = 59 ∨ t = 60 ∨ (t = 32 ∧ 4 ≤ j ∧ j ≤ 12 ∧ j ≠ 8 ∧ j ≠ 9)) fun t i j q => by omega)
        rw [e8, e7, e6, e5, e4]
        exact ((((f3.up (by omega)).up (by omega)).up (by omega)).up (by omega)).up (by omega)
      · rw [last _ _ (by omega), f _ _ _ (by omega), e2, up_ne (by omega), e1, up_eq ⟨rfl, rfl, rfl⟩]
      · rw [last _ _ (by omega), f _ _ _ (by omega), e2, up_ne (by omega), e1, up_ne (by omega)]
      · rw [last _ _ (by omega), f _ _ _ (by omega), e2, up_eq ⟨rfl, rfl, rfl⟩]
      · rw [last _ _ (by omega)]; exact g5
      · rw [last _ _ (by omega)]; exact g1
      · rw [last _ _ (by omega)]; exact g2 i hi
      · rw [last _ _ (by omega)]; exact g3
      · rw [e8, up_ne (by omega), e7, up_ne (by omega), e6, up_ne (by omega), e5, up_ne (by omega), e4, up_eq ⟨rfl, rfl, rfl⟩]
      · rw [e8, up_ne (by omega), e7, up_ne (by omega), e6, up_ne (by omega), e5, up_ne (by omega), e4, up_ne (by omega), f _ _ _ (by omega), F2 _ _ (by omega)]
      · rw [e8, up_ne (by omega), e7, up_ne (by omega)]; exact k44
      · rw [e8, up_ne (by omega)]; exact k55
      · rw [e8, up_ne (by omega), e7, up_eq ⟨rfl, rfl, rfl⟩]
      · rw [e8, up_eq ⟨rfl, rfl, rfl⟩]
    have mid : ∀ s0 : Int, s0 = (if n < 10 then 1 else 2) → G (d + 1) (fun v σ' => v = vi (σ 32 0 6) ∧ PtS σ r n σ') 130 20 [vr 32 0, vi (r : Int), vu, vi (σ 32 0 6), vu, vu] [vi s0] σ2 := by
      intro s0 hs0
      have hs : (s0 = 1 ∧ n < 10) ∨ (s0 = 2 ∧ 10 ≤ n) := by
        by_cases q : n < 10
        · rw [if_pos q] at hs0; exact Or.inl ⟨hs0, q⟩
        · rw [if_neg q] at hs0; exact Or.inr ⟨hs0, by omega⟩
      have b12 : σ2 32 0 12 = σ 32 0 12 := F2 _ _ (by omega)
      refine b_130x_20 ?_
      rw [b12]
      refine ⟨irI (by omega) (by omega), fun σ3 e3 => ?_⟩
      have c59 : rg 546 (σ3 59 0) (r : Int) = σ 59 0 r := by rw [rgN (by omega), e3, up_ne (by omega), F2 _ _ (by omega)]
      have c60 : rg 546 (σ3 60 0) (r : Int) = σ 60 0 r := by rw [rgN (by omega), e3, up_ne (by omega), F2 _ _ (by omega)]
      have c60' : ∀ i : Int, σ3 60 0 i = σ 60 0 i := fun i => by rw [e3, up_ne (by omega), F2 _ _ (by omega)]
      have cj : ∀ j : Int, j ≠ 6 → j ≠ 12 → σ3 32 0 j = σ 32 0 j := fun j q1 q2 => by rw [e3, up_ne (by omega), F2 _ _ (by omega)]
      have c12 : σ3 32 0 12 = σ 32 0 12 + s0 := by rw [e3, up_eq ⟨rfl, rfl, rfl⟩]
      rw [c59, c60]
      have nosp : ¬ (10 ≤ n ∧ σ 60 0 r = 1) → G (d + 1) (fun v σ' => v = vi (σ 32 0 6) ∧ PtS σ r n σ') 130 60 [vr 32 0, vi (r : Int), vu, vi (σ 32 0 6), vu, vi (σ 59 0 r)] [] σ3 := fun q =>
        fin σ3 (σ 60 0 r) (σ 32 0 10) (σ 32 0 5) (by rw [e3]; exact (Fm.rf σ2).up (by omega)) (c60' r) (fun i _ => c60' i) (cj 10 (by omega) (by omega)) (cj 5 (by omega) (by omega)) (by rw [c12, hs0]) hr1.2 hg.2.1.1 (by omega) (Or.inr ⟨q, rfl, rfl, rfl⟩)
      refine ⟨fun q => nosp (by omega), fun q => ⟨fun w => nosp (by omega), fun w σ4 e4 => ?_⟩⟩
      rw [us_in ⟨by omega, by omega⟩] at e4
      have d10 : σ4 32 0 10 = σ 32 0 10 := by rw [e4, up_ne (by omega)]; exact cj 10 (by omega) (by omega)
      rw [d10]
      refine ⟨irI (by omega) (by omega), fun σ5 e5 => ?_⟩
      have d5 : σ5 32 0 5 = σ 32 0 5 := by rw [e5, up_ne (by omega), e4, up_ne (by omega)]; exact cj 5 (by omega) (by omega)
      rw [d5]
      refine ⟨irI (by omega) (by omega), irI (by omega) (by omega), fun σ6 e6 => ?_⟩
      refine fin σ6 2 (σ 32 0 10 + 1) (σ 32 0 5 + σ 59 0 r * 1) ?_ ?_ (fun i hi => ?_) ?_ ?_ ?_ (Or.inr rfl) (by omega) (by omega) (Or.inl ⟨by omega, w, rfl, rfl, by omega⟩)
      · rw [e6, e5, e4, e3]; exact ((((Fm.rf σ2).up (by omega)).up (by omega)).up (by omega)).up (by omega)
      · rw [e6, up_ne (by omega), e5, up_ne (by omega), e4, up_eq ⟨rfl, rfl, rfl⟩]
      · rw [e6, up_ne (by omega), e5, up_ne (by omega), e4, up_ne (by omega)]; exact c60' i
      · rw [e6, up_ne (by omega), e5, up_eq ⟨rfl, rfl, rfl⟩]
      · rw [e6, up_eq ⟨rfl, rfl, rfl⟩]
      · rw [e6, up_ne (by omega), e5, up_ne (by omega), e4, up_ne (by omega), c12, hs0]
    exact ⟨fun q => mid 2 (by rw [if_neg (by omega)]), fun q => mid 1 (by rw [if_pos q])⟩
  obtain ⟨v, σ', h1, rfl, h2⟩ := this
  exact ⟨σ', h1, h2⟩
theorem PtS.inv (h : StI σ o B) {r : Nat} (hr : r < o) {n : Int} (hn : 0 ≤ n ∧ n ≤ 999) (hm : σ 32 0 6 < 300) {σ' : SS} (hp : PtS σ r n σ') : StI σ' o B := by
  have hg := h.rng
  obtain ⟨h1, h2, h3, h4, h5, h6, h7, h8, h9, h10, h11, h12, h13, h14⟩ := h
  have hr1 := h4 r hr
  have hr2 := hg.2.2 r hr
  obtain ⟨w, bs, ws, hd, f, p1, p2, p3, p4, p5, p6, p7, p8, p9, p10, p11, p12, p13⟩ := hp
  have e3 : σ' 32 0 3 = σ 32 0 3 := f _ _ _ (by omega)
  have e8 : σ' 32 0 8 = σ 32 0 8 := f _ _ _ (by omega)
  have e9 : σ' 32 0 9 = σ 32 0 9 := f _ _ _ (by omega)
  have hw : w = 1 ∨ w = 2 := by omega
  have sb : sumN (bxs σ') o = sumN (bxs σ) o + 1 := sum_upd (f := bxs σ) (g := bxs σ') hr (fun i _ hi => p9 i (by omega)) p8
  have sw : sumN (wds σ') o = sumN (wds σ) o + (ws - σ 32 0 5) := sum_upd (f := wds σ) (g := wds σ') hr (fun i _ hi => by show σ' 59 0 i * σ' 60 0 i = _; rw [p9 i (by omega), p6 i (by omega)]; rfl) (by
    show σ' 59 0 r * σ' 60 0 r = σ 59 0 r * σ 60 0 r + (ws - σ 32 0 5)
    rw [p8, p5]
    rcases hd with ⟨d1, d2, d3, d4, d5⟩ | ⟨d1, d2, d3, d4⟩
    · rw [d3, d2, d5]; omega
    · rw [d2, d4]
      rcases hr1.2 with y | y <;> rw [y] <;> omega)
  have wsn : 1 ≤ ws := by omega
  have wsu : sumN (wds σ') o ≤ 2 * sumN (bxs σ') o := by
    rw [← sum_two]
    refine sum_le fun i hi => ?_
    show σ' 59 0 i * σ' 60 0 i ≤ 2 * σ' 59 0 i
    by_cases q : i = r
    · subst q; rw [p8, p5]
      rcases hw with y | y <;> rw [y] <;> omega
    · obtain ⟨x, y⟩ := h4 i hi
      rw [p9 i (by omega), p6 i (by omega)]
      rcases y with y | y <;> rw [y] <;> omega
  have hneed : (if n < 10 then (1 : Int) else 2) = 1 ∨ (if n < 10 then (1 : Int) else 2) = 2 := by by_cases q : n < 10 <;> simp [q]
  unfold StI
  rw [e3, e8, e9, p3, p4, p7, p10, p11, p12, p13, sb, sw]
  refine ⟨h1, by omega, fun i a b => ?_, fun i hi => ?_, by omega, by omega, by omega, by omega, h9, h10, by omega, by omega, by omega, by omega⟩
  · by_cases q : i = σ 32 0 6
    · rw [q, p1]; exact hn
    · rw [p2 i q]; exact h3 i a (by omega)
  · by_cases q : i = r
    · subst q; rw [p8, p5]; omega
    · rw [p9 i (by omega), p6 i (by omega)]; exact h4 i hi
theorem m_put (h : StI σ o B) (ho : o ≤ 546) {r : Nat} (hr : r < o) {n : Int} (hn : 0 ≤ n ∧ n ≤ 999) (hm : σ 32 0 6 < 300) {σ' : SS} (hp : PtS σ r n σ') (hR : SR σ τ) :
    ∃ τ', Rn (d + 1) 74 [vr 62 0, vi (r : Int), vi n] τ (vi (σ 32 0 6 + 1)) τ' ∧ SR σ' τ' ∧ Fm Cstm τ τ' := by
  have hg := h.rng
  obtain ⟨h1, h2, h3, h4, h5, h6, h7, h8, h9, h10, h11, h12, h13, h14⟩ := h
  have hr1 := h4 r hr
  have hr2 := hg.2.2 r hr
  obtain ⟨a1, a2, a3, a4, a5, a6, a7, a8, a9, a10, a11, a12⟩ := hR
  obtain ⟨z1, z2⟩ := a2 r (by omega) (by omega)
  obtain ⟨w, bs, ws, hd, f, p1, p2, p3, p4, p5, p6, p7, p8, p9, p10, p11, p12, p13⟩ := hp
  have e3 : σ' 32 0 3 = σ 32 0 3 := f _ _ _ (by omega)
  have e8 : σ' 32 0 8 = σ 32 0 8 := f _ _ _ (by omega)
  have e9 : σ' 32 0 9 = σ 32 0 9 := f _ _ _ (by omega)
  have hrr : (0 : Int) ≤ r ∧ (r : Int) < 700 := by omega
  let PP : AV → SS → Prop := fun v τ' => v = vi (σ 32 0 6 + 1) ∧ SR σ' τ' ∧ Fm Cstm τ τ'
  -- behind 46
  have tail : ∀ τ2 : SS, Fm Cstm τ τ2 → τ2 62 0 28 = σ 32 0 3 → (∀ i : Int, τ2 87 0 i = τ 87 0 i) → (∀ i : Int, i ≠ r → τ2 88 0 i = τ 88 0 i) → τ2 88 0 r = w - 1 → (∀ i : Int, i ≠ σ 32 0 6 + 1 → τ2 86 0 i = τ 86 0 i) → τ2 86 0 (σ 32 0 6 + 1) = n → τ2 62 0 31 = σ 32 0 6 + 1 → τ2 62 0 32 = σ 32 0 4 → τ2 62 0 33 = σ 32 0 7 → τ2 62 0 34 = σ 32 0 8 → τ2 62 0 35 = σ 32 0 9 → τ2 62 0 36 = bs → τ2 62 0 38 = ws - w → τ2 62 0 39 = σ 32 0 11 → τ2 62 0 40 = σ 32 0 12 → G (d + 0) PP 74 46 [vr 62 0, vi (r : Int), vi n] [] τ2 := by
    intro τ2 t0 t1 t2 t3 t4 t5 t6 t7 t8 t9 t10 t11 t12 t13 t14 t15
    have b87 : τ2 87 0 r = σ 59 0 r := by rw [t2]; exact z1
    have hws : -1000 ≤ ws ∧ ws ≤ 2000 := by omega
    refine b_74x_46 ⟨hrr, ?_⟩
    rw [b87]
    refine ⟨irI (by omega) (by omega), hrr, fun τ3 e3' => ⟨hrr, ?_⟩⟩
    have s88 : τ3 88 0 r = w - 1 := by rw [e3', up_ne (by omega)]; exact t4
    have s38 : τ3 62 0 38 = ws - w := by rw [e3', up_ne (by omega)]; exact t13
    rw [s88, s38]
    have st65 : ∀ x : Int, x = w → G (d + 0) PP 74 65 [vr 62 0, vu, vi n] [vi x, vi (ws - w), vr 62 0] τ3 := by
      intro x hx
      subst hx
      refine b_74x_65 ⟨irI (by omega) (by omega), fun τ4 e4 => ?_⟩
      rw [show ws - x + x = ws by omega] at e4
      have s40 : τ4 62 0 40 = σ 32 0 12 := by rw [e4, up_ne (by omega), e3', up_ne (by omega)]; exact t15
      rw [s40]
      have st76 : ∀ y : Int, y = (if n < 10 then 1 else 2) → (y = 1 ∨ y = 2) → G (d + 0) PP 74 76 [vr 62 0, vu, vu] [vi y, vi (σ 32 0 12), vr 62 0] τ4 := by
        intro y hy hy2
        refine b_74x_76 ⟨irI (by omega) (by omega), fun τ5 e5 => ?_⟩
        have s32 : τ5 62 0 32 = σ 32 0 4 := by rw [e5, up_ne (by omega), e4, up_ne (by omega), e3', up_ne (by omega)]; exact t8
        rw [s32]
        refine ⟨irI (by omega) (by omega), fun τ6 e6 => ?_⟩
        have s32' : τ6 62 0 32 = σ 32 0 4 + 1 := by rw [e6, up_eq ⟨rfl, rfl, rfl⟩]
        have s33 : τ6 62 0 33 = σ 32 0 7 := by rw [e6, up_ne (by omega), e5, up_ne (by omega), e4, up_ne (by omega), e3', up_ne (by omega)]; exact t9
        rw [s32', s33]
        have st95 : ∀ u : Int, u = max (σ 32 0 7) (σ 32 0 4 + 1) → G (d + 0) PP 74 95 [vr 62 0, vu, vu] [vi u, vr 62 0] τ6 := by
          intro u hu
          refine b_74x_95 fun τ7 e7 => ?_
          have s38 : τ7 62 0 38 = ws := by rw [e7, up_ne (by omega), e6, up_ne (by omega), e5, up_ne (by omega), e4, up_eq ⟨rfl, rfl, rfl⟩]
          have s39 : τ7 62 0 39 = σ 32 0 11 := by rw [e7, up_ne (by omega), e6, up_ne (by omega), e5, up_ne (by omega), e4, up_ne (by omega), e3', up_ne (by omega)]; exact t14
          rw [s38, s39]
          have st107 : ∀ u2 : Int, u2 = max (σ 32 0 11) ws → G (d + 0) PP 74 107 [vr 62 0, vu, vu] [vi u2, vr 62 0] τ7 := by
            intro u2 hu2
            refine b_74x_107 fun τ8 e8' => ?_
            have last : ∀ t j, (t ≠ 87 ∧ (t ≠ 62 ∨ (j ≠ 38 ∧ j ≠ 40 ∧ j ≠ 32 ∧ j ≠ 33 ∧ j ≠ 39))) → τ8 t 0 j = τ2 t 0 j := fun t j q => by rw [e8', up_ne (by omega), e7, up_ne (by omega), e6, up_ne (by omega), e5, up_ne (by omega), e4, up_ne (by omega), e3', up_ne (by omega)]
            refine ⟨by rw [last 62 31 (by omega), t7], ⟨by rw [last _ _ (by omega), e3, t1], fun i i1 i2 => ?_, fun i i1 i2 => ?_, by rw [last _ _ (by omega), t7, p3], ?_, ?_, by rw [last _ _ (by omega), e8, t10], by rw [last _ _ (by omega), e9, t11], by rw [last _ _ (by omega), p7, t12], ?_, ?_, ?_⟩, ?_⟩
            · rw [e3] at i2
              by_cases q : i = r
              · subst q
                rw [last 88 _ (by omega), t4, p5, p8]
                refine ⟨?_, rfl⟩
                rw [e8', up_ne (by omega), e7, up_ne (by omega), e6, up_ne (by omega), e5, up_ne (by omega), e4, up_ne (by omega), e3', up_eq ⟨rfl, rfl, rfl⟩]
              · rw [last 88 _ (by omega), t3 i q, p6 i q, p9 i q]
                refine ⟨?_, (a2 i i1 i2).2⟩
                rw [e8', up_ne (by omega), e7, up_ne (by omega), e6, up_ne (by omega), e5, up_ne (by omega), e4, up_ne (by omega), e3', up_ne (by omega), t2]
                exact (a2 i i1 i2).1
            · rw [p3] at i2
              rw [last _ _ (by omega)]
              by_cases q : i = σ 32 0 6
              · rw [q, p1, t6]
              · rw [p2 i q, t5 _ (by omega)]; exact a3 i i1 (by omega)
            · rw [p10, e8', up_ne (by omega), e7, up_ne (by omega)]; exact s32'
            · rw [p12, e8', up_ne (by omega), e7, up_eq ⟨rfl, rfl, rfl⟩]; exact hu
            · rw [p11, e8', up_ne (by omega)]; exact s38
            · rw [p13, e8', up_eq ⟨rfl, rfl, rfl⟩]; exact hu2
            · rw [p4, e8', up_ne (by omega), e7, up_ne (by omega), e6, up_ne (by omega), e5, up_eq ⟨rfl, rfl, rfl⟩, hy]
            · rw [e8', e7, e6, e5, e4, e3']
              refine (((((t0.up ?_).up ?_).up ?_).up ?_).up ?_).up ?_ <;> unfold Cstm <;> omega
          exact ⟨fun q => st107 _ (by omega), fun q => st107 _ (by omega)⟩
        exact ⟨fun q => st95 _ (by omega), fun q => st95 _ (by omega)⟩
      exact ⟨fun q => st76 1 (by rw [if_pos (by omega)]) (Or.inl rfl), fun q => st76 2 (by rw [if_neg (by omega)]) (Or.inr rfl)⟩
    exact ⟨fun q => st65 1 (by omega), fun q => st65 2 (by omega)⟩
  have : Ok (d + 1) 74 [vr 62 0, vi (r : Int), vi n] τ PP := by
    refine G_ok rfl (b_74x_0 ?_)
    rw [a4]
    refine ⟨irI (by omega) (by omega), fun τ1 e1 => ?_⟩
    have b31 : τ1 62 0 31 = σ 32 0 6 + 1 := by rw [e1, up_eq ⟨rfl, rfl, rfl⟩]
    rw [b31]
    refine ⟨fun _ => ⟨by omega, fun τ2 e2 => ?_⟩, fun q => absurd q (by omega)⟩
    have F2 : ∀ t j, (t ≠ 86 ∧ (t ≠ 62 ∨ j ≠ 31)) → τ2 t 0 j = τ t 0 j := fun t j q => by rw [e2, up_ne (by omega), e1, up_ne (by omega)]
    have c86 : ∀ i : Int, i ≠ σ 32 0 6 + 1 → τ2 86 0 i = τ 86 0 i := fun i q => by rw [e2, up_ne (by omega), e1, up_ne (by omega)]
    have c86' : τ2 86 0 (σ 32 0 6 + 1) = n := by rw [e2, up_eq ⟨rfl, rfl, rfl⟩]
    have c31 : τ2 62 0 31 = σ 32 0 6 + 1 := by rw [e2, up_ne (by omega)]; exact b31
    have f2 : Fm Cstm τ τ2 := by rw [e2, e1]; exact ((Fm.rf τ).up (by unfold Cstm; omega)).up (by unfold Cstm; omega)
    have c88 : τ2 88 0 r = σ 60 0 r - 1 := by rw [F2 _ _ (by omega)]; exact z2
    have nosp : ¬ (10 ≤ n ∧ σ 60 0 r = 1) → G (d + 0) PP 74 46 [vr 62 0, vi (r : Int), vi n] [] τ2 := fun q => by
      have hd2 : w = σ 60 0 r ∧ bs = σ 32 0 10 ∧ ws = σ 32 0 5 + σ 60 0 r := by
        rcases hd with hd | hd
        · exact absurd ⟨hd.1, hd.2.1⟩ q
        · exact hd.2
      exact tail τ2 f2 (by rw [F2 _ _ (by omega)]; exact a1) (fun i => F2 _ _ (by omega)) (fun i _ => F2 _ _ (by omega)) (by rw [c88]; omega) c86 c86' c31 (by rw [F2 _ _ (by omega)]; exact a5) (by rw [F2 _ _ (by omega)]; exact a6) (by rw [F2 _ _ (by omega)]; exact a7) (by rw [F2 _ _ (by omega)]; exact a8) (by rw [F2 _ _ (by omega), a9]; omega) (by rw [F2 _ _ (by omega), a10]; omega) (by rw [F2 _ _ (by omega)]; exact a11) (by rw [F2 _ _ (by omega)]; exact a12)
    refine ⟨fun q => nosp (by omega), fun q => ⟨hrr, ?_⟩⟩
    rw [c88]
    refine ⟨fun u => nosp (by omega), fun u => ⟨⟨hrr, Or.inr rfl⟩, fun τ3 e3' => ?_⟩⟩
    have d36 : τ3 62 0 36 = σ 32 0 10 := by rw [e3', up_ne (by omega), F2 _ _ (by omega)]; exact a9
    rw [d36]
    refine ⟨irI (by omega) (by omega), fun τ4 e4 => ⟨hrr, ?_⟩⟩
    have d38 : τ4 62 0 38 = σ 32 0 5 := by rw [e4, up_ne (by omega), e3', up_ne (by omega), F2 _ _ (by omega)]; exact a10
    have d87 : τ4 87 0 r = σ 59 0 r := by rw [e4, up_ne (by omega), e3', up_ne (by omega), F2 _ _ (by omega)]; exact z1
    rw [d38, d87]
    refine ⟨irI (by omega) (by omega), fun τ5 e5 => ?_⟩
    have hd2 : w = 2 ∧ bs = σ 32 0 10 + 1 ∧ ws = σ 32 0 5 + σ 59 0 r + 2 := by
      rcases hd with hd | hd
      · exact hd.2.2
      · exact absurd ⟨by omega, by omega⟩ hd.1
    have F5 : ∀ t j, (t ≠ 86 ∧ (t ≠ 88 ∨ j ≠ (r : Int)) ∧ (t ≠ 62 ∨ (j ≠ 31 ∧ j ≠ 36 ∧ j ≠ 38))) → τ5 t 0 j = τ t 0 j := fun t j q => by rw [e5, up_ne (by omega), e4, up_ne (by omega), e3', up_ne (by omega), F2 _ _ (by omega)]
    refine tail τ5 (by rw [e5, e4, e3']; exact ((f2.up (by unfold Cstm; omega)).up (by unfold Cstm; omega)).up (by unfold Cstm; omega)) (by rw [F5 _ _ (by omega)]; exact a1) (fun i => F5 _ _ (by omega)) (fun i hi => F5 _ _ (by omega)) ?_ (fun i hi => ?_) ?_ ?_ (by rw [F5 _ _ (by omega)]; exact a5) (by rw [F5 _ _ (by omega)]; exact a6) (by rw [F5 _ _ (by omega)]; exact a7) (by rw [F5 _ _ (by omega)]; exact a8) ?_ ?_ (by rw [F5 _ _ (by omega)]; exact a11) (by rw [F5 _ _ (by omega)]; exact a12)
    · rw [e5, up_ne (by omega), e4, up_ne (by omega), e3', up_eq ⟨rfl, rfl, rfl⟩]; omega
    · rw [e5, up_ne (by omega), e4, up_ne (by omega), e3', up_ne (by omega)]; exact c86 i hi
    · rw [e5, up_ne (by omega), e4, up_ne (by omega), e3', up_ne (by omega)]; exact c86'
    · rw [e5, up_ne (by omega), e4, up_ne (by omega), e3', up_ne (by omega)]; exact c31
    · rw [e5, up_ne (by omega), e4, up_eq ⟨rfl, rfl, rfl⟩]; omega
    · rw [e5, up_eq ⟨rfl, rfl, rfl⟩]; omega
  obtain ⟨v, τ', h1, rfl, h2, h3⟩ := this
  exact ⟨τ', h1, h2, h3⟩
/-- the box too much -/
theorem m_putX {r n : Int} (hm : τ 62 0 31 = 300) : ∃ τ', Rn (d + 1) 74 [vr 62 0, vi r, vi n] τ (vi 0) τ' ∧ τ' = up τ 62 0 31 301 := by
  refine ⟨_, G_rn rfl (b_74x_0 ?_), rfl⟩
  rw [hm]
  refine ⟨irI (by omega) (by omega), fun τ1 e1 => ?_⟩
  have b31 : τ1 62 0 31 = 301 := by rw [e1, up_eq ⟨rfl, rfl, rfl⟩]; rfl
  rw [b31]
  exact ⟨fun q => absurd q (by omega), fun _ => ⟨rfl, e1⟩⟩
end PUT
