/-! ===== agreement: image ===== -/
section TAKE
variable {d : Nat}
/-- a kept text takes from a body's -/
theorem take_k {σ : SS} {q p : Int} : ∃ σ', Rn (d + 2) 139 [vr 33 q, vr 6 p] σ vu σ' ∧ Fm (fun t i _ => (t = 33 ∨ t = 61) ∧ i = q) σ σ' ∧ (∀ j : Int, j = 1 ∨ j = 2 ∨ j = 3 → σ' 33 q j = σ 6 p j) ∧ ∀ x : Int, 0 ≤ x → x < 40 → σ' 61 q x = σ 37 p x := by
  let PP : AV → SS → Prop := fun v σ' => v = vu ∧ Fm (fun t i _ => (t = 33 ∨ t = 61) ∧ i = q) σ σ' ∧ (∀ j : Int, j = 1 ∨ j = 2 ∨ j = 3 → σ' 33 q j = σ 6 p j) ∧ ∀ x : Int, 0 ≤ x → x < 40 → σ' 61 q x = σ 37 p x
  have loop : ∀ (m k : Nat) (σ1 : SS), k + m = 40 → Fm (fun t i _ => t = 61 ∧ i = q) σ σ1 → (∀ x : Int, 0 ≤ x → x < k → σ1 61 q x = σ 37 p x) → G (d + 1) PP 139 2 [vr 33 q, vr 6 p, vi (k : Int)] [] σ1 := by
    intro m
    induction m with
    | zero =>
      intro k σ1 hk hF hx
      obtain rfl : k = 40 := by omega
      refine b_139k_2 ⟨fun _ => fun σ2 e2 σ3 e3 σ4 e4 => ⟨rfl, ?_, fun j hj => ?_, fun x x1 x2 => ?_⟩, fun w => absurd w (by omega)⟩
      · rw [e4, e3, e2]; exact (((hF.mono fun t i j w => by omega).up (by omega)).up (by omega)).up (by omega)
      · have k6 : ∀ j, σ1 6 p j = σ 6 p j := fun j => hF _ _ _ (by omega)
        have k62 : ∀ j, σ2 6 p j = σ 6 p j := fun j => by rw [e2, up_ne (by omega)]; exact k6 j
        have k63 : ∀ j, σ3 6 p j = σ 6 p j := fun j => by rw [e3, up_ne (by omega)]; exact k62 j
        rcases hj with rfl | rfl | rfl
        · rw [e4, up_ne (by omega), e3, up_ne (by omega), e2, up_eq ⟨rfl, rfl, rfl⟩, k6]
        · rw [e4, up_ne (by omega), e3, up_eq ⟨rfl, rfl, rfl⟩, k62]
        · rw [e4, up_eq ⟨rfl, rfl, rfl⟩, k63]
      · rw [e4, up_ne (by omega), e3, up_ne (by omega), e2, up_ne (by omega)]; exact hx x x1 (by omega)
    | succ m ih =>
      intro k σ1 hk hF hx
      refine b_139k_2 ⟨fun w => absurd w (by omega), fun _ σ2 e2 => ⟨irI (by omega) (by omega), ?_⟩⟩
      rw [us_in ⟨by omega, by omega⟩, rgN (by omega)] at e2
      refine ih (k + 1) σ2 (by omega) (by rw [e2]; exact hF.up ⟨rfl, rfl⟩) fun x x1 x2 => ?_
      rw [e2]
      by_cases w : x = k
      · rw [w, up_eq ⟨rfl, rfl, rfl⟩]; exact hF _ _ _ (by omega)
      · rw [up_ne (by omega)]; exact hx x x1 (by omega)
  have : Ok (d + 2) 139 [vr 33 q, vr 6 p] σ PP := G_ok rfl (b_139k_0 (loop 40 0 σ rfl (Fm.rf σ) fun x x1 x2 => by omega))
  obtain ⟨v, σ', h1, rfl, h2⟩ := this
  exact ⟨σ', h1, h2⟩
/-- a body's text takes from a kept one -/
theorem take_a {σ : SS} {q p : Int} : ∃ σ', Rn (d + 2) 139 [vr 6 p, vr 33 q] σ vu σ' ∧ Fm (fun t i _ => (t = 6 ∨ t = 37) ∧ i = p) σ σ' ∧ (∀ j : Int, j = 1 ∨ j = 2 ∨ j = 3 → σ' 6 p j = σ 33 q j) ∧ ∀ x : Int, 0 ≤ x → x < 40 → σ' 37 p x = σ 61 q x := by
  let PP : AV → SS → Prop := fun v σ' => v = vu ∧ Fm (fun t i _ => (t = 6 ∨ t = 37) ∧ i = p) σ σ' ∧ (∀ j : Int, j = 1 ∨ j = 2 ∨ j = 3 → σ' 6 p j = σ 33 q j) ∧ ∀ x : Int, 0 ≤ x → x < 40 → σ' 37 p x = σ 61 q x
  have loop : ∀ (m k : Nat) (σ1 : SS), k + m = 40 → Fm (fun t i _ => t = 37 ∧ i = p) σ σ1 → (∀ x : Int, 0 ≤ x → x < k → σ1 37 p x = σ 61 q x) → G (d + 1) PP 139 2 [vr 6 p, vr 33 q, vi (k : Int)] [] σ1 := by
    intro m
    induction m with
    | zero =>
      intro k σ1 hk hF hx
      obtain rfl : k = 40 := by omega
      refine b_139a_2 ⟨fun _ => fun σ2 e2 σ3 e3 σ4 e4 => ⟨rfl, ?_, fun j hj => ?_, fun x x1 x2 => ?_⟩, fun w => absurd w (by omega)⟩
      · rw [e4, e3, e2]; exact (((hF.mono fun t i j w => by omega).up (by omega)).up (by omega)).up (by omega)
      · have k6 : ∀ j, σ1 33 q j = σ 33 q j := fun j => hF _ _ _ (by omega)
        have k62 : ∀ j, σ2 33 q j = σ 33 q j := fun j => by rw [e2, up_ne (by omega)]; exact k6 j
        have k63 : ∀ j, σ3 33 q j = σ 33 q j := fun j => by rw [e3, up_ne (by omega)]; exact k62 j
        rcases hj with rfl | rfl | rfl
        · rw [e4, up_ne (by omega), e3, up_ne (by omega), e2, up_eq ⟨rfl, rfl, rfl⟩, k6]
        · rw [e4, up_ne (by omega), e3, up_eq ⟨rfl, rfl, rfl⟩, k62]
        · rw [e4, up_eq ⟨rfl, rfl, rfl⟩, k63]
      · rw [e4, up_ne (by omega), e3, up_ne (by omega), e2, up_ne (by omega)]; exact hx x x1 (by omega)
    | succ m ih =>
      intro k σ1 hk hF hx
      refine b_139a_2 ⟨fun w => absurd w (by omega), fun _ σ2 e2 => ⟨irI (by omega) (by omega), ?_⟩⟩
      rw [us_in ⟨by omega, by omega⟩, rgN (by omega)] at e2
      refine ih (k + 1) σ2 (by omega) (by rw [e2]; exact hF.up ⟨rfl, rfl⟩) fun x x1 x2 => ?_
      rw [e2]
      by_cases w : x = k
      · rw [w, up_eq ⟨rfl, rfl, rfl⟩]; exact hF _ _ _ (by omega)
      · rw [up_ne (by omega)]; exact hx x x1 (by omega)
  have : Ok (d + 2) 139 [vr 6 p, vr 33 q] σ PP := G_ok rfl (b_139a_0 (loop 40 0 σ rfl (Fm.rf σ) fun x x1 x2 => by omega))
  obtain ⟨v, σ', h1, rfl, h2⟩ := this
  exact ⟨σ', h1, h2⟩
theorem s_44 {σ : SS} {n b : Int} (hn : n = 0 ∨ n = 1) (hb : isB b) : Rn (d + 1) 44 [vr 0 0, vi n, vi b] σ (vr 33 (3 * n + b)) σ := by
  unfold isB at hb
  refine G_rn rfl (b_44_0 ⟨irI (by omega) (by omega), irI (by omega) (by omega), fun q => absurd q (by omega), fun _ => ⟨fun q => absurd q (by omega), fun _ => ⟨by omega, by rw [show n * 3 + b = 3 * n + b by omega], rfl⟩⟩⟩)
/-- image n is kept: the class's texts -/
theorem c_image {T : TP} {n : Int} (hn : n = 0 ∨ n = 1) {σ : SS} (hC : CTx T σ) : ∃ σ', Rn (d + 4) 40 [vr 0 0, vi n] σ (vi 1) σ' ∧ Fm (fun t i j => ((t = 33 ∨ t = 61) ∧ 3 * n ≤ i ∧ i < 3 * n + 3) ∨ (t = 35 ∧ i = 0 ∧ j = n)) σ σ' ∧ ImgC T σ' n ∧ σ' 35 0 n = 1 := by
  let PP : AV → SS → Prop := fun v σ' => v = vi 1 ∧ Fm (fun t i j => ((t = 33 ∨ t = 61) ∧ 3 * n ≤ i ∧ i < 3 * n + 3) ∨ (t = 35 ∧ i = 0 ∧ j = n)) σ σ' ∧ ImgC T σ' n ∧ σ' 35 0 n = 1
  have loop : ∀ (m k : Nat) (σ1 : SS), k + m = 3 → Fm (fun t i _ => (t = 33 ∨ t = 61) ∧ 3 * n ≤ i ∧ i < 3 * n + k) σ σ1 → (∀ b : Int, 0 ≤ b → b < k → σ1 33 (3 * n + b) 1 = (tN T b : Int) ∧ σ1 33 (3 * n + b) 2 = tG T b ∧ σ1 33 (3 * n + b) 3 = tV T b ∧ ∀ p : Int, 0 ≤ p → p < 40 → σ1 61 (3 * n + b) p = tS T b p) → G (d + 3) PP 40 9 [vr 0 0, vi n, vi (k : Int), vu, vu] [] σ1 := by
    intro m
    induction m with
    | zero =>
      intro k σ1 hk hF hx
      obtain rfl : k = 3 := by omega
      refine b_40_9 (d := d + 1) ⟨fun _ => ⟨⟨by omega, Or.inr rfl⟩, fun σ2 e2 => ⟨rfl, ?_, fun b hb => ?_, ?_⟩⟩, fun w => absurd w (by omega)⟩
      · rw [e2]; exact (hF.mono fun t i j w => Or.inl ⟨w.1, w.2.1, by omega⟩).up (by omega)
      · unfold isB at hb
        obtain ⟨y1, y2, y3, y4⟩ := hx b (by omega) (by omega)
        rw [e2, up_ne (by omega), up_ne (by omega), up_ne (by omega)]
        exact ⟨y1, y2, y3, fun p p1 p2 => by rw [up_ne (by omega)]; exact y4 p p1 p2⟩
      · rw [e2]; exact up_eq ⟨rfl, rfl, rfl⟩
    | succ m ih =>
      intro k σ1 hk hF hx
      have hb : isB (k : Int) := by unfold isB; omega
      obtain ⟨σ2, t1, t2, t3, t4⟩ := take_k (d := d + 1) (σ := σ1) (q := 3 * n + (k : Int)) (p := (k : Int))
      have hC1 : CTx T σ1 := hC.keep hF (fun t i j w => by omega)
      obtain ⟨c1, c2, c3, c4⟩ := hC1 _ hb
      refine b_40_9 (d := d + 1) ⟨fun w => absurd w (by omega), fun _ => ⟨some (33, 3 * n + (k : Int)), σ1, s_44 hn hb, b_40_16r ⟨some (4, (k : Int)), σ1, s_15 hb, b_40_21rr ⟨σ2, t1, irI (by omega) (by omega), ?_⟩⟩⟩⟩
      refine ih (k + 1) σ2 (by omega) ((hF.mono fun t i j w => by omega).tr (t2.mono fun t i j w => by omega)) fun b b1 b2 => ?_
      by_cases w : b = k
      · rw [w, t3 1 (by omega), t3 2 (by omega), t3 3 (by omega)]
        exact ⟨c1, c2, c3, fun p p1 p2 => by rw [t4 p p1 p2]; exact c4 p p1 p2⟩
      · obtain ⟨y1, y2, y3, y4⟩ := hx b b1 (by omega)
        rw [t2 _ _ _ (by omega), t2 _ _ _ (by omega), t2 _ _ _ (by omega)]
        exact ⟨y1, y2, y3, fun p p1 p2 => by rw [t2 _ _ _ (by omega)]; exact y4 p p1 p2⟩
  have : Ok (d + 4) 40 [vr 0 0, vi n] σ PP := G_ok rfl (b_40_0 (d := d + 1) ⟨fun _ => loop 3 0 σ rfl (Fm.rf σ) (fun b b1 b2 => by omega), fun q => absurd (show 0 ≤ n ∧ n ≤ 1 by omega) (ifR.1.mp q)⟩)
  obtain ⟨v, σ', h1, rfl, h2⟩ := this
  exact ⟨σ', h1, h2⟩
end TAKE
