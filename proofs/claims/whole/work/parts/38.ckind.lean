/-! ===== kinds, ill parts: the class ===== -/
def CTT (T : TP) (σ : SS) : Prop := ∀ b, isB b → IsFA (tN T b) (tS T b) (σ 5 b 9) ∧ (σ 5 b 9 = -6 → CTr T b σ)
def CKb (T : TP) (b : Int) (σ : SS) : Prop := ∀ p : Nat, p < tN T b → σ 38 b p = if nmA (tS T b) p = true then 0 else kdA T b p
def CKd (T : TP) (σ : SS) : Prop := ∀ b, isB b → σ 5 b 9 = -6 → CKb T b σ
section CKIND
variable {T : TP} {b : Int} {d : Nat} {σ : SS}
theorem kos_ge {n : Nat} {s : Int → Int} (hg : GoodA n s) {p : Nat} (hp : p < n) (hm : nmA s p = false) : 0 ≤ kos (s p) := by
  have kr := kos_rng (s p)
  rcases (show kos (s p) < 0 ∨ 0 ≤ kos (s p) by omega) with q | q
  · exact absurd (Or.inr (Or.inr ⟨hm, q⟩)) (hg.1 p hp)
  · exact q
theorem c_at (hT : TOKA T) (hb : isB b) (hC : CTx T σ) {p : Nat} (hp : p < tN T b) : rg 40 (σ 37 b) (p : Int) = tS T b p := by
  have := (hT b hb).1
  rw [rgN (by omega)]
  exact (hC b hb).2.2.2 p (by omega) (by omega)
theorem c_in (hT : TOKA T) (hb : isB b) (hr : CTr T b σ) {p : Nat} (hp : p < tN T b) (hm : nmA (tS T b) p = false) (i : Nat) (hi : (i : Int) < inn (kos (tS T b p))) : rg 120 (σ 41 b) (3 * (p : Int) + i) = xkA (tN T b) (tS T b) p i := by
  have := (hT b hb).1
  have := inn_rng (kos (tS T b p))
  rw [rg_in ⟨by omega, by omega⟩]
  exact (((hr.1 p hp).2.1 hm).1 i hi).1
theorem c_39 (hT : TOKA T) (hb : isB b) (hr : CTr T b σ) {p : Nat} (hp : p < tN T b) : rg 40 (σ 39 b) (p : Int) = if nmA (tS T b) p = true then 0 else tS T b p := by
  have := (hT b hb).1
  rw [rgN (by omega)]
  exact (hr.1 p hp).1
theorem c_part (hT : TOKA T) (hb : isB b) (hr : CTr T b σ) {p : Nat} (hp : p < tN T b) : (if rg 40 (σ 39 b) (p : Int) ≠ 0 then (1 : Int) else 0) = if nmA (tS T b) p = true then 0 else 1 := by
  have := (hT b hb).2.2.2 p hp
  rw [c_39 hT hb hr hp]
  cases nmA (tS T b) p
  · rw [if_neg (show ¬ false = true by decide), if_neg (show ¬ false = true by decide), if_pos (by omega)]
  · rw [if_pos rfl, if_pos rfl, if_neg (by simp)]
theorem c_44 (hT : TOKA T) (hb : isB b) (hr : CTr T b σ) {p : Nat} (hp : p < tN T b) (hm : nmA (tS T b) p = false) (hl : 97 ≤ tS T b p ∧ tS T b p ≤ 100) : rg 40 (σ 44 b) (p : Int) = bnA (tN T b) (tS T b) p := by
  have := (hT b hb).1
  rw [rgN (by omega), (hr.1 p hp).2.2.1, if_pos ⟨hm, hl⟩]
theorem c_40 (hT : TOKA T) (hb : isB b) (hr : CTr T b σ) {p : Nat} (hp : p < tN T b) (hm : nmA (tS T b) p = false) (hl : tS T b p = 64) : rg 40 (σ 40 b) (p : Int) = ofA (tS T b) p := by
  have := (hT b hb).1
  rw [rgN (by omega), (hr.1 p hp).2.2.2, if_pos ⟨hm, hl⟩]
theorem c_kind (hT : TOKA T) (hb : isB b) (hC : CTx T σ) (hg : GoodA (tN T b) (tS T b)) (hr : CTr T b σ) : ∀ (r p : Nat) (i : Int), rkA (tN T b) (tS T b) p < r → p < tN T b → nmA (tS T b) p = false → 0 ≤ i → i + rkA (tN T b) (tS T b) p < tN T b →
    G (d + 2) (fun v σ' => v = vi (kdA T b p) ∧ σ' = σ) 104 4 [vr 2 0, vr 5 b, vu, vi (p : Int), vi i, vu, vu] [] σ
  | 0, _, _, h, _, _, _, _ => by omega
  | r + 1, p, i, hrk, hp, hm, hi, hir => by
    have hb' := hb
    unfold isB at hb'
    have hn := (hT b hb).1
    have hk := kd_eq hg hp hm
    have irp : ir (i + 1) := irI (by omega) (by omega)
    have hop : kos (tS T b p) = 7 ∨ kos (tS T b p) = 8 → (ir (3 * (p : Int)) ∧ ir (3 * (p : Int) + 1)) ∧ ir (i + 1) ∧ G (d + 2) (fun v σ' => v = vi (kdA T b p) ∧ σ' = σ) 104 4 [vr 2 0, vr 5 b, vu, vi (rg 120 (σ 41 b) (3 * (p : Int) + 1)), vi (i + 1), vu, vu] [] σ := fun q => by
      obtain ⟨x1, x2, x3⟩ := hop_c1 hg hp hm q
      have := c_kind hT hb hC hg hr r _ (i + 1) (by omega) x1 x2 (by omega) (by omega)
      have hq := inn_of q
      have e := c_in hT hb hr hp hm 1 (by omega)
      rw [show ((1 : Nat) : Int) = 1 from rfl] at e
      rw [e]
      rw [if_neg (by omega), if_neg (by omega), if_neg (by omega), if_pos q] at hk
      rw [hk]
      exact ⟨⟨irI (by omega) (by omega), irI (by omega) (by omega)⟩, irp, this⟩
    refine b_104_4 ⟨fun q => absurd q (by omega), fun _ => ?_⟩
    rw [c_at hT hb hC hp]
    refine ⟨fun h110 => ⟨fun h120 => ⟨fun h64 => ⟨fun h63 => hop (Or.inl (kos_7.mpr h63)), fun h63 => ⟨fun h108 => ⟨fun hl => ?_, fun hl => ?_⟩, fun h108 => hop (Or.inr (kos_8.mpr h108))⟩⟩, fun h64 => ?_⟩, fun h120 => ?_⟩, fun h110 => ?_⟩
    · rw [ite0] at hl
      refine ⟨?_, rfl⟩
      rw [hk, if_neg (fun q => h110 (kos_3.mp q)), if_neg (fun q => h120 (kos_1.mp q)), if_neg (fun q => h64 (kos_9.mp q)), if_neg (fun q => q.elim (fun q => h63 (kos_7.mp q)) (fun q => h108 (kos_8.mp q))), if_neg (fun q => hl (kos_2.mp q))]
    · rw [ite1] at hl
      have h2 := kos_2.mpr hl
      rw [if_neg (by omega), if_neg (by omega), if_neg (by omega), if_neg (by omega), if_pos h2] at hk
      rw [c_44 hT hb hr hp hm hl]
      rcases bn_spec hg hp with q | ⟨q, q1, q2, q3, q4, q5, q6, q7⟩
      · rw [q, if_pos (by decide)] at hk
        rw [q, hk]
        exact ⟨fun _ => ⟨rfl, rfl⟩, fun w => absurd rfl w⟩
      · rw [q1, if_neg (by omega), Int.toNat_natCast] at hk
        obtain ⟨x1, x2, x3⟩ := hop_let hg hp q3 q4 q6 q7 q2
        have hqn : q < tN T b := by omega
        rw [q1]
        refine ⟨fun w => absurd w (by omega), fun _ => ⟨⟨irI (by omega) (by omega), irI (by omega) (by omega)⟩, irp, ?_⟩⟩
        have e := c_in hT hb hr hqn q3 0 (by rw [q4]; decide)
        rw [show ((0 : Nat) : Int) = 0 from rfl] at e
        rw [e, hk]
        exact c_kind hT hb hC hg hr r _ (i + 1) (by omega) x1 x2 (by omega) (by omega)
    · have hof := (of_B hg hp hm h64).1
      have h9 := kos_9.mpr h64
      rw [c_40 hT hb hr hp hm h64]
      refine ⟨_, σ, s_15 hof, b_104_34r ⟨?_, rfl⟩⟩
      rw [hk, if_neg (by omega), if_neg (by omega), if_pos h9, (hC _ hof).2.2.1]
    · refine ⟨?_, rfl⟩
      have h1 := kos_1.mpr h120
      rw [hk, if_neg (by omega), if_pos h1, (hC b hb).2.1]
    · refine ⟨?_, rfl⟩
      rw [hk, if_pos (kos_3.mpr h110)]
theorem c_findKind (hT : TOKA T) (hb : isB b) (hC : CTx T σ) (hg : GoodA (tN T b) (tS T b)) (hr : CTr T b σ) {p : Nat} (hp : p < tN T b) (hm : nmA (tS T b) p = false) :
    Rn (d + 3) 104 [vr 2 0, vr 5 b, vi (p : Int)] σ (vi (kdA T b p)) σ := by
  have := rk_lt hg hp
  exact G_rn rfl (b_104_0 (c_kind hT hb hC hg hr _ p 0 (Nat.lt_succ_self _) hp hm (Int.le_refl _) (by omega)))
/-- kindsChanged -/
theorem c_kinds (hT : TOKA T) (hC : CTx T σ) (hI : CTT T σ) (h1 : -1000000 ≤ σ 2 0 1 ∧ σ 2 0 1 ≤ 1000000) :
    ∃ σ', Rn (d + 4) 103 [vr 2 0] σ vu σ' ∧ Fm (fun t i j => t = 38 ∨ (t = 2 ∧ i = 0 ∧ j = 1)) σ σ' ∧ σ' 2 0 1 = σ 2 0 1 + 1 ∧ CKd T σ' := by
  let σ0 := up σ 2 0 1 (σ 2 0 1 + 1)
  have hF0 : Fm (fun t i j => t = 38 ∨ (t = 2 ∧ i = 0 ∧ j = 1)) σ σ0 := (Fm.rf σ).up (Or.inr ⟨rfl, rfl, rfl⟩)
  have key : ∀ (P : AV → SS → Prop), (∀ σ', Fm (fun t _ _ => t = 38) σ0 σ' → (∀ c : Int, 0 ≤ c → c < 3 → σ 5 c 9 = -6 → CKb T c σ') → P vu σ') → ∀ (m k : Nat), k + m = 3 →
      ∀ σ1, Fm (fun t _ _ => t = 38) σ0 σ1 → (∀ c : Int, 0 ≤ c → c < k → σ 5 c 9 = -6 → CKb T c σ1) → G (d + 3) P 103 8 [vr 2 0, vi (k : Int), vu, vu] [] σ1 := by
    intro P hP m
    induction m with
    | zero => intro k hk σ1 hF hd; exact b_103_8 ⟨fun _ => hP σ1 hF fun c g1 g2 g3 => hd c g1 (by omega) g3, fun q => absurd q (by omega)⟩
    | succ m ih =>
      intro k hk σ1 hF hd
      have hkb : isB (k : Int) := by unfold isB; omega
      have hn := (hT k hkb).1
      have hir : ir ((k : Int) + 1) := irI (by omega) (by omega)
      have next := ih (k + 1) (by omega)
      rw [nat1] at next
      refine b_103_8 ⟨fun q => absurd q (by omega), fun _ => ⟨by omega, ?_⟩⟩
      have e9 : ∀ σ2, Fm (fun t _ _ => t = 38) σ0 σ2 → σ2 5 k 9 = σ 5 k 9 := fun σ2 h => (h 5 k 9 (by omega)).trans (hF0 _ _ _ (by omega))
      by_cases h9 : σ 5 k 9 = -6
      · have hg := (Good_of (hI k hkb).1).1.mp h9
        have inner : ∀ (m2 p : Nat), p + m2 = tN T k → ∀ σ2, Fm (fun t i _ => t = 38 ∧ i = (k : Int)) σ1 σ2 → (∀ q : Nat, q < p → σ2 38 k q = if nmA (tS T k) q = true then 0 else kdA T k q) → G (d + 3) P 103 21 [vr 2 0, vi (k : Int), vr 5 (k : Int), vi (p : Int)] [] σ2 := by
          intro m2
          induction m2 with
          | zero =>
            intro p hp σ2 hF2 hd2
            have hF3 := hF.tr (hF2.mono fun t i j q => q.1)
            refine b_103_21 ⟨fun q => absurd ((e9 σ2 hF3).trans h9) q, fun _ => ⟨fun _ => ⟨hir, next σ2 hF3 fun c g1 g2 g3 => ?_⟩, fun q => absurd q ?_⟩⟩
            · by_cases hc : c = k
              · subst hc; intro q hq; exact hd2 q (by omega)
              · intro q hq
                rw [hF2 _ _ _ (by omega)]
                exact hd c g1 (by omega) g3 q hq
            · rw [hF3 _ _ _ (by omega), hF0 _ _ _ (by omega), (hC k hkb).1]; omega
          | succ m2 ih2 =>
            intro p hp σ2 hF2 hd2
            have hF3 := hF.tr (hF2.mono fun t i j q => q.1)
            have hF4 : Fm (fun t i j => t = 38 ∨ (t = 2 ∧ i = 0 ∧ j = 1)) σ σ2 := hF0.tr (hF3.mono fun t i j q => Or.inl q)
            have hC2 : CTx T σ2 := hC.keep hF4 (fun t i j q => by omega)
            have hr2 : CTr T k σ2 := ((hI k hkb).2 h9).keep hF4 (fun t i j q w => by unfold Ctm at w; omega)
            have hpn : p < tN T k := by omega
            have i2 := ih2 (p + 1) (by omega)
            rw [nat1] at i2
            refine b_103_21 ⟨fun q => absurd ((e9 σ2 hF3).trans h9) q, fun _ => ⟨fun q => absurd q (by rw [hF3 _ _ _ (by omega), hF0 _ _ _ (by omega), (hC k hkb).1]; omega), fun _ => ?_⟩⟩
            rw [c_part hT hkb hr2 hpn]
            have fin : ∀ x σ3, x = (if nmA (tS T k) p = true then 0 else kdA T k p) → σ3 = us 40 σ2 38 k p x → ir ((p : Int) + 1) ∧ G (d + 3) P 103 21 [vr 2 0, vi (k : Int), vr 5 (k : Int), vi ((p : Int) + 1)] [] σ3 := by
              intro x σ3 hx e3
              rw [us_in ⟨by omega, by omega⟩] at e3
              refine ⟨irI (by omega) (by omega), i2 σ3 (by rw [e3]; exact hF2.up ⟨rfl, rfl⟩) fun q hq => ?_⟩
              by_cases hqp : q = p
              · subst hqp; rw [e3, up_eq ⟨rfl, rfl, rfl⟩]; exact hx
              · rw [e3, up_ne (by omega)]; exact hd2 q (by omega)
            cases hm : nmA (tS T k) p
            · refine ⟨fun q => absurd q (by decide), fun _ => ⟨_, σ2, c_findKind hT hkb hC2 hg hr2 hpn hm, fun σ4 e4 => fin _ σ4 (by rw [hm]; rfl) e4⟩⟩
            · exact ⟨fun _ σ3 e3 => fin _ σ3 (by rw [hm]; rfl) e3, fun q => absurd rfl q⟩
        have := inner (tN T k) 0 (by omega) σ1 (Fm.rf σ1) (fun q hq => by omega)
        exact this
      · refine b_103_21 ⟨fun _ => ⟨hir, next σ1 hF fun c g1 g2 g3 => ?_⟩, fun q => absurd ((e9 σ1 hF).symm.trans q) h9⟩
        by_cases hc : c = k
        · subst hc; exact absurd g3 h9
        · exact hd c g1 (by omega) g3
  have : Ok (d + 4) 103 [vr 2 0] σ (fun v σ' => v = vu ∧ Fm (fun t _ _ => t = 38) σ0 σ' ∧ ∀ c : Int, 0 ≤ c → c < 3 → σ 5 c 9 = -6 → CKb T c σ') :=
    G_ok rfl (b_103_0 ⟨irI (by omega) (by omega), fun s1 e1 => by
      obtain rfl : s1 = σ0 := e1
      exact key _ (fun σ' h1 h2 => ⟨rfl, h1, h2⟩) 3 0 (by omega) _ (Fm.rf _) (fun c h1 h2 => by omega)⟩)
  obtain ⟨v, σ', r1, rfl, r2, r3⟩ := this
  refine ⟨σ', r1, hF0.tr (r2.mono fun t i j q => Or.inl q), by rw [r2 _ _ _ (by omega)]; exact up_eq ⟨rfl, rfl, rfl⟩, fun b hb h9 => r3 b hb.1 hb.2 ?_⟩
  rw [r2 _ _ _ (by omega), hF0 _ _ _ (by omega)] at h9
  exact h9
theorem c_38 (hT : TOKA T) (hb : isB b) (hr : CTr T b σ) (hk : CKb T b σ) (hg : GoodA (tN T b) (tS T b)) {p : Nat} (hp : p < tN T b) (hm : nmA (tS T b) p = false) (i : Nat) (hi : (i : Int) < inn (kos (tS T b p))) : rg 40 (σ 38 b) (rg 120 (σ 41 b) (3 * (p : Int) + i)) = kdA T b (xkA (tN T b) (tS T b) p i) := by
  have hn := (hT b hb).1
  have hx := xk_spec hg hp hm i (by omega)
  have hx6 := hx.2.2.2.2.2 hi
  rw [c_in hT hb hr hp hm i hi, rgN (by omega), hk _ hx6, hx.2.1]
  rfl
/-- isIll -/
theorem c_ill (hT : TOKA T) (hb : isB b) (hC : CTx T σ) (hg : GoodA (tN T b) (tS T b)) (hr : CTr T b σ) (hk : CKb T b σ) {p : Nat} (hp : p < tN T b) (hm : nmA (tS T b) p = false) :
    Rn (d + 3) 106 [vr 2 0, vr 5 b, vi (p : Int)] σ (vi (if illA T b p = true then 1 else 0)) σ := by
  have hb' := hb
  unfold isB at hb'
  have hn := (hT b hb).1
  have hin := inn_rng (kos (tS T b p))
  have k0 : 1 ≤ inn (kos (tS T b p)) → rg 40 (σ 38 b) (rg 120 (σ 41 b) (3 * (p : Int) + 0)) = kdA T b (c0A (tS T b) p) ∧ (kdA T b (c0A (tS T b) p) = 0 ∨ kdA T b (c0A (tS T b) p) = 1) := fun q =>
    ⟨c_38 hT hb hr hk hg hp hm 0 (by omega), kd01 hT hb hg ((xk_spec hg hp hm 0 (by omega)).2.2.2.2.2 (by omega)) (xk_spec hg hp hm 0 (by omega)).2.1⟩
  have k1 : 2 ≤ inn (kos (tS T b p)) → rg 40 (σ 38 b) (rg 120 (σ 41 b) (3 * (p : Int) + 1)) = kdA T b (c1A (tN T b) (tS T b) p) ∧ (kdA T b (c1A (tN T b) (tS T b) p) = 0 ∨ kdA T b (c1A (tN T b) (tS T b) p) = 1) := fun q =>
    ⟨c_38 hT hb hr hk hg hp hm 1 (by omega), kd01 hT hb hg ((xk_spec hg hp hm 1 (by omega)).2.2.2.2.2 (by omega)) (xk_spec hg hp hm 1 (by omega)).2.1⟩
  have k2 : inn (kos (tS T b p)) = 3 → rg 40 (σ 38 b) (rg 120 (σ 41 b) (3 * (p : Int) + 2)) = kdA T b (c2A (tN T b) (tS T b) p) := fun q => c_38 hT hb hr hk hg hp hm 2 (by omega)
  have i0 : ir (3 * (p : Int)) ∧ ir (3 * (p : Int) + 0) := ⟨irI (by omega) (by omega), irI (by omega) (by omega)⟩
  have i1 : ir (3 * (p : Int)) ∧ ir (3 * (p : Int) + 1) := ⟨irI (by omega) (by omega), irI (by omega) (by omega)⟩
  have i2 : ir (3 * (p : Int)) ∧ ir (3 * (p : Int) + 2) := ⟨irI (by omega) (by omega), irI (by omega) (by omega)⟩
  have y1 : illA T b p = true → ((1 : Int) = 0 ∨ (1 : Int) = 1) ∧ (vi 1 = vi (if illA T b p = true then 1 else 0) ∧ σ = σ) := fun q => by rw [q]; exact ⟨Or.inr rfl, rfl, rfl⟩
  have y0 : illA T b p = false → ((0 : Int) = 0 ∨ (0 : Int) = 1) ∧ (vi 0 = vi (if illA T b p = true then 1 else 0) ∧ σ = σ) := fun q => by rw [q]; exact ⟨Or.inl rfl, rfl, rfl⟩
  have e38 : p = 0 → rg 40 (σ 38 b) 0 = kdA T b p := fun q => by
    subst q
    rw [rg_in ⟨by omega, by omega⟩]
    have := hk 0 hp
    rw [hm] at this
    exact this
  have mid : illA T b p = illB T b p → G (d + 2) (fun v σ' => v = vi (if illA T b p = true then 1 else 0) ∧ σ' = σ) 106 12 [vr 2 0, vr 5 b, vi (p : Int), vu, vu] [] σ := by
    intro hA
    rw [hA] at y0 y1 ⊢
    have h20 : kos (tS T b p) = 3 ∨ kos (tS T b p) = 5 → G (d + 2) (fun v σ' => v = vi (if illB T b p = true then 1 else 0) ∧ σ' = σ) 106 20 [vu, vr 5 b, vi (p : Int), vu, vu] [] σ := fun q => by
      have hB : illB T b p = decide (kdA T b (c0A (tS T b) p) = 1) := by unfold illB; rw [if_neg (by omega), if_pos q]
      obtain ⟨z1, z2⟩ := k0 (by rcases q with q | q <;> rw [q] <;> decide)
      refine b_106x_20 ⟨i0, ?_⟩
      rw [z1]
      exact ⟨fun w => b_106x_28 (y0 (by rw [hB]; exact decide_eq_false (by omega))), fun w => b_106x_28 (y1 (by rw [hB]; exact decide_eq_true (by omega)))⟩
    refine b_106x_12 ?_
    rw [c_at hT hb hC hp]
    refine ⟨fun h42 h43 h45 h63 h64 h110 => ⟨fun hl => b_106x_102 (b_106x_103 (y0 ?_)), fun hl => ?_⟩, fun h42 => ⟨i0, ?_⟩, fun h43 => ⟨i0, ?_⟩, fun h45 => h20 (Or.inr (kos_5.mpr h45)), fun h63 => ⟨i0, ?_⟩, fun h64 => ?_, fun h110 => h20 (Or.inl (kos_3.mpr h110)), trivial⟩
    · rw [ite0] at hl
      unfold illB
      rw [if_neg (fun q => hl (kos_2.mp q)), if_neg (fun q => q.elim (fun q => h110 (kos_3.mp q)) (fun q => h45 (kos_5.mp q))), if_neg (fun q => h42 (kos_4.mp q)), if_neg (fun q => h43 (kos_6.mp q)), if_neg (fun q => h63 (kos_7.mp q)), if_neg (fun q => h64 (kos_9.mp q))]
    · rw [ite1] at hl
      rw [c_44 hT hb hr hp hm hl]
      have hB : illB T b p = decide (bnA (tN T b) (tS T b) p < 0) := by unfold illB; rw [if_pos (kos_2.mpr hl)]
      have hbn := bn_spec hg hp
      refine ⟨fun w => b_106x_102 (b_106x_103 (y0 ?_)), fun w => b_106x_103 (y1 ?_)⟩
      · rw [hB]
        rcases hbn with q | ⟨q, q1, -⟩
        · exact absurd q w
        · exact decide_eq_false (by omega)
      · rw [hB]; exact decide_eq_true (by omega)
    · have hkv := kos_4.mpr h42
      have hB : illB T b p = decide (kdA T b (c0A (tS T b) p) = 0) := by unfold illB; rw [if_neg (by omega), if_neg (by omega), if_pos (by omega)]
      obtain ⟨z1, z2⟩ := k0 (by rw [hkv]; decide)
      rw [z1]
      exact ⟨fun w => b_106x_52 (y0 (by rw [hB]; exact decide_eq_false (by omega))), fun w => b_106x_52 (y1 (by rw [hB]; exact decide_eq_true (by omega)))⟩
    · have hkv := kos_6.mpr h43
      have hB : illB T b p = (decide (kdA T b (c0A (tS T b) p) = 1) || decide (kdA T b (c1A (tN T b) (tS T b) p) = 1)) := by unfold illB; rw [if_neg (by omega), if_neg (by omega), if_neg (by omega), if_pos (by omega)]
      obtain ⟨z1, z2⟩ := k0 (by rw [hkv]; decide)
      obtain ⟨z3, z4⟩ := k1 (by rw [hkv]; decide)
      rw [z1, z3]
      exact ⟨fun w => b_106x_39 (b_106x_42 (y1 (by rw [hB, decide_eq_true (p := kdA T b (c0A (tS T b) p) = 1) (by omega)]; rfl))), fun w => ⟨i1, fun z => b_106x_42 (y0 (by rw [hB, decide_eq_false (p := kdA T b (c0A (tS T b) p) = 1) (by omega), decide_eq_false (by omega)]; rfl)), fun z => b_106x_39 (b_106x_42 (y1 (by rw [hB, decide_eq_true (p := kdA T b (c1A (tN T b) (tS T b) p) = 1) (by omega), Bool.or_true])))⟩⟩
    · have hkv := kos_7.mpr h63
      have hB : illB T b p = (decide (kdA T b (c0A (tS T b) p) = 1) || decide (kdA T b (c1A (tN T b) (tS T b) p) ≠ kdA T b (c2A (tN T b) (tS T b) p))) := by unfold illB; rw [if_neg (by omega), if_neg (by omega), if_neg (by omega), if_neg (by omega), if_pos (by omega)]
      obtain ⟨z1, z2⟩ := k0 (by rw [hkv]; decide)
      obtain ⟨z3, z4⟩ := k1 (by rw [hkv]; decide)
      have z5 := k2 (by rw [hkv]; decide)
      rw [z1, z3, z5]
      exact ⟨fun w => b_106x_67 (b_106x_70 (y1 (by rw [hB, decide_eq_true (p := kdA T b (c0A (tS T b) p) = 1) (by omega)]; rfl))), fun w => ⟨i1, i2, fun z => b_106x_70 (y0 (by rw [hB, decide_eq_false (p := kdA T b (c0A (tS T b) p) = 1) (by omega), decide_eq_false (fun u => u z)]; rfl)), fun z => b_106x_67 (b_106x_70 (y1 (by rw [hB, decide_eq_true (p := kdA T b (c1A (tN T b) (tS T b) p) ≠ kdA T b (c2A (tN T b) (tS T b) p)) z, Bool.or_true])))⟩⟩
    · have hof := (of_B hg hp hm h64).1
      rw [c_40 hT hb hr hp hm h64]
      have hkv := kos_9.mpr h64
      have hB : illB T b p = decide (kdA T b (c0A (tS T b) p) ≠ tG T (ofA (tS T b) p)) := by unfold illB; rw [if_neg (by omega), if_neg (by omega), if_neg (by omega), if_neg (by omega), if_neg (by omega), if_pos (by omega)]
      obtain ⟨z1, z2⟩ := k0 (by rw [hkv]; decide)
      refine ⟨_, σ, s_15 hof, b_106x_77r ⟨i0, ?_⟩⟩
      rw [z1, (hC _ hof).2.1]
      exact ⟨fun w => b_106x_91 (y0 (by rw [hB]; exact decide_eq_false (fun u => u w))), fun w => b_106x_88 (b_106x_91 (y1 (by rw [hB]; exact decide_eq_true w)))⟩
  refine G_rn rfl (b_106x_0 ⟨fun hp0 => mid ?_, fun hp0 => ⟨fun h3 => mid ?_, fun h3 => ?_⟩⟩)
  · unfold illA
    rw [decide_eq_false (show ¬ p = 0 by omega)]; rfl
  · rw [e38 (by omega), (hC b hb).2.2.1] at h3
    unfold illA
    rw [decide_eq_false (p := kdA T b p ≠ tV T b) (fun z => z h3), Bool.and_false]; rfl
  · have hp0' : p = 0 := by omega
    rw [e38 hp0', (hC b hb).2.2.1] at h3
    refine y1 ?_
    unfold illA
    rw [decide_eq_true hp0', decide_eq_true (p := kdA T b p ≠ tV T b) h3]
    rfl
theorem c_firstIll (hT : TOKA T) (hb : isB b) (hC : CTx T σ) (hg : GoodA (tN T b) (tS T b)) (hr : CTr T b σ) (hk : CKb T b σ) :
    Rn (d + 4) 105 [vr 2 0, vr 5 b] σ (vi (iloA T b)) σ := by
  have hn := (hT b hb).1
  have e61 := (hC b hb).1
  have key : ∀ (m k : Nat), k + m = tN T b → G (d + 3) (fun v σ' => v = vi (frstA (fun p => !nmA (tS T b) p && illA T b p) m k) ∧ σ' = σ) 105 2 [vr 2 0, vr 5 b, vi (k : Int)] [] σ := by
    intro m
    induction m with
    | zero => intro k hk; exact b_105_2 ⟨fun _ => ⟨rfl, rfl⟩, fun q => absurd q (by omega)⟩
    | succ m ih =>
      intro k hkk
      have hkn : k < tN T b := by omega
      have i1 := ih (k + 1) (by omega)
      rw [nat1] at i1
      refine b_105_2 ⟨fun q => absurd q (by omega), fun _ => ?_⟩
      rw [c_part hT hb hr hkn, frst_step]
      cases hm : nmA (tS T b) k
      · refine ⟨fun q => absurd q (by decide), fun _ => ⟨_, σ, c_ill hT hb hC hg hr hk hkn hm, fun w => ⟨irI (by omega) (by omega), ?_⟩, fun w => ?_⟩⟩
        · have : illA T b k = false := by cases h : illA T b k <;> simp_all
          rw [this]; exact i1
        · have : illA T b k = true := by cases h : illA T b k <;> simp_all
          rw [this]; exact ⟨rfl, rfl⟩
      · exact ⟨fun _ => ⟨irI (by omega) (by omega), i1⟩, fun q => absurd rfl q⟩
  exact G_rn rfl (b_105_0 (key (tN T b) 0 (by omega)))
end CKIND
