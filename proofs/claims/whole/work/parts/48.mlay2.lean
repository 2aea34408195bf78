theorem or_1 (x1 x2 x3 x4 y : Bool) (v : Int) (h : v = biA y) : ((((e4A x1 x2 x3 x4).toNat ||| v.toNat : Nat)) : Int) = e4A (x1 || y) x2 x3 x4 := by rw [h]; exact e4_or1 x1 x2 x3 x4 y
theorem or_2 (x1 x2 x3 x4 y : Bool) (v : Int) (h : v = 2 * biA y) : ((((e4A x1 x2 x3 x4).toNat ||| v.toNat : Nat)) : Int) = e4A x1 (x2 || y) x3 x4 := by rw [h]; exact e4_or2 x1 x2 x3 x4 y
theorem or_4 (x1 x2 x3 x4 y : Bool) (v : Int) (h : v = 4 * biA y) : ((((e4A x1 x2 x3 x4).toNat ||| v.toNat : Nat)) : Int) = e4A x1 x2 (x3 || y) x4 := by rw [h]; exact e4_or4 x1 x2 x3 x4 y
theorem or_8 (x1 x2 x3 x4 y : Bool) (v : Int) (h : v = 8 * biA y) : ((((e4A x1 x2 x3 x4).toNat ||| v.toNat : Nat)) : Int) = e4A x1 x2 x3 (x4 || y) := by rw [h]; exact e4_or8 x1 x2 x3 x4 y
section MLAY2
variable {T : TP} {b : Int} {d : Nat} {σ : SS}
def Cem : Nat → Int → Int → Prop := fun t _ _ => t = 77
theorem efM_keep {C : Nat → Int → Int → Prop} {σ σ' : SS} (hF : Fm C σ σ') (hc : ∀ t i j, C t i j → t ≠ 77) : efM σ' = efM σ := funext fun c => hF 77 0 c fun q => hc _ _ _ q rfl
theorem nuM_keep {C : Nat → Int → Int → Prop} {σ σ' : SS} (hF : Fm C σ σ') (hc : ∀ t i j, C t i j → t ≠ 74) : nuM σ' = nuM σ := funext fun c => funext fun p => hF 74 0 _ fun q => hc _ _ _ q rfl
/-- one place's four bits -/
theorem m_eff1 (hT : TOKA T) (hW : welA T) (hb : isB b) (hM : MW T σ) (hP : PsOK T (psM σ)) (hO : NuOK T b (psM σ) (nuM σ b) (σ 76 0 b)) (hE : ∀ c, isB c → 0 ≤ efM σ c) {P : AV → SS → Prop} {l1 : Int} {k : Nat} (hk : k < tN T b)
    (hn : G (d + 2) P 67 29 [vr 62 0, vi l1, vi b, vi (efK T b (nuM σ b) (psM σ) (efM σ) (k + 1)), vi (40 * b + (k : Int) + 1), vu, vu, vu] [] σ) :
    G (d + 2) P 67 29 [vr 62 0, vi l1, vi b, vi (efK T b (nuM σ b) (psM σ) (efM σ) k), vi (40 * b + (k : Int)), vu, vu, vu] [] σ := by
  have hn40 := (hT b hb).1
  have hb' := hb
  unfold isB at hb'
  have e65 := (hM.1 b hb).1
  have e63 := (hM.1 b hb).2.1
  have e64 := (hM.1 b hb).2.2.1
  have tg := (hT b hb).2.1
  have tv := (hT b hb).2.2.1
  have p01 := hP.1.1 b hb
  generalize hr : (if psM σ b = 0 then (1 : Int) else 0) = r
  have g0 : Rn (d + 2) 66 [vr 62 0, vi (40 * b + (k : Int)), vi 0, vi 0] σ (vi (if doB T b (nuM σ b) (efM σ) k 0 false = true then 1 else 0)) σ := m_does (d := d) (lk := false) hT hW hb hM hE hk
  have g1 : Rn (d + 2) 66 [vr 62 0, vi (40 * b + (k : Int)), vi 0, vi 1] σ (vi (if doB T b (nuM σ b) (efM σ) k 0 true = true then 1 else 0)) σ := m_does (d := d) (lk := true) hT hW hb hM hE hk
  have g2 : Rn (d + 2) 66 [vr 62 0, vi (40 * b + (k : Int)), vi r, vi 0] σ (vi (if doB T b (nuM σ b) (efM σ) k r false = true then 1 else 0)) σ := m_does (d := d) (lk := false) hT hW hb hM hE hk
  have g3 : Rn (d + 2) 66 [vr 62 0, vi (40 * b + (k : Int)), vi r, vi 1] σ (vi (if doB T b (nuM σ b) (efM σ) k r true = true then 1 else 0)) σ := m_does (d := d) (lk := true) hT hW hb hM hE hk
  have q0 : qA T b (nuM σ b) (psM σ) (efM σ) 0 k = doB T b (nuM σ b) (efM σ) k 0 false := rfl
  have q1 : qA T b (nuM σ b) (psM σ) (efM σ) 1 k = doB T b (nuM σ b) (efM σ) k 0 true := rfl
  have q2 : qA T b (nuM σ b) (psM σ) (efM σ) 2 k = doB T b (nuM σ b) (efM σ) k r false := by rw [← hr]; rfl
  have q3 : qA T b (nuM σ b) (psM σ) (efM σ) 3 k = doB T b (nuM σ b) (efM σ) k r true := by rw [← hr]; rfl
  have noP : tG T b ≠ 1 → ∀ lk, doB T b (nuM σ b) (efM σ) k 0 lk = false := fun w lk => by
    cases hd : doB T b (nuM σ b) (efM σ) k 0 lk
    · rfl
    · obtain ⟨q, z1, z2⟩ := do_nu hW hb hk hd
      exact absurd (nu_P hT hW hb hO z1 z2) w
  have noR : tV T b ≠ 1 → ∀ lk, doB T b (nuM σ b) (efM σ) k r lk = false := fun w lk => by
    cases hd : doB T b (nuM σ b) (efM σ) k r lk
    · rfl
    · exfalso
      by_cases hp : psM σ b = 0
      · rw [if_pos hp] at hr
        subst hr
        obtain ⟨q, z1, z2⟩ := do_nu hW hb hk hd
        exact w (nu_R hT hW hb hO z1 z2)
      · exact w (re_PR hT hW hb (hP.1.2.1 b hb (by omega))).2
  have noP0 := fun w => noP w false
  have noP1 := fun w => noP w true
  have noR2 := fun w => noR w false
  have noR3 := fun w => noR w true
  generalize hx1 : anyA (qA T b (nuM σ b) (psM σ) (efM σ) 0) k = x1
  generalize hx2 : anyA (qA T b (nuM σ b) (psM σ) (efM σ) 1) k = x2
  generalize hx3 : anyA (qA T b (nuM σ b) (psM σ) (efM σ) 2) k = x3
  generalize hx4 : anyA (qA T b (nuM σ b) (psM σ) (efM σ) 3) k = x4
  have hK : efK T b (nuM σ b) (psM σ) (efM σ) k = e4A x1 x2 x3 x4 := by unfold efK; rw [hx1, hx2, hx3, hx4]
  have hK1 : efK T b (nuM σ b) (psM σ) (efM σ) (k + 1) = e4A (x1 || qA T b (nuM σ b) (psM σ) (efM σ) 0 k) (x2 || qA T b (nuM σ b) (psM σ) (efM σ) 1 k) (x3 || qA T b (nuM σ b) (psM σ) (efM σ) 2 k) (x4 || qA T b (nuM σ b) (psM σ) (efM σ) 3 k) := by unfold efK; simp only [anyA, hx1, hx2, hx3, hx4]
  rw [hK1, q0, q1, q2, q3] at hn
  rw [hK]
  generalize doB T b (nuM σ b) (efM σ) k 0 false = y1 at *
  generalize doB T b (nuM σ b) (efM σ) k 0 true = y2 at *
  generalize doB T b (nuM σ b) (efM σ) k r false = y3 at *
  generalize doB T b (nuM σ b) (efM σ) k r true = y4 at *
  have pos : ∀ a1 a2 a3 a4, 0 ≤ e4A a1 a2 a3 a4 := fun a1 a2 a3 a4 => (e4_rng a1 a2 a3 a4).1
  have s5 : G (d + 2) P 67 124 [vr 62 0, vi l1, vi b, vi (e4A (x1 || y1) (x2 || y2) (x3 || y3) (x4 || y4)), vi (40 * b + (k : Int)), vu, vu, vu] [] σ := b_67_124 ⟨irI (by omega) (by omega), hn⟩
  have s4 : ∀ t7 : Int, (t7 = 0 → tV T b ≠ 1) → G (d + 2) P 67 110 [vr 62 0, vi l1, vi b, vi (e4A (x1 || y1) (x2 || y2) (x3 || y3) x4), vi (40 * b + (k : Int)), vi r, vu, vi t7] [] σ := by
    intro t7 h7
    refine b_67_110 ⟨fun w => ⟨⟨pos _ _ _ _, by decide⟩, ?_⟩, fun w => ⟨_, σ, g3, fun z => ⟨⟨pos _ _ _ _, by decide⟩, ?_⟩, fun z => ⟨⟨pos _ _ _ _, by decide⟩, ?_⟩⟩⟩
    · rw [or_8 _ _ _ _ y4 0 (by rw [noR3 (h7 w)]; rfl)]; exact s5
    · rw [or_8 _ _ _ _ y4 0 (by cases y4 <;> simp_all [biA])]; exact s5
    · rw [or_8 _ _ _ _ y4 8 (by cases y4 <;> simp_all [biA])]; exact s5
  have s3 : ∀ t7 : Int, (t7 = 0 → tV T b ≠ 1) → G (d + 2) P 67 96 [vr 62 0, vi l1, vi b, vi (e4A (x1 || y1) (x2 || y2) x3 x4), vi (40 * b + (k : Int)), vi r, vu, vi t7] [] σ := by
    intro t7 h7
    refine b_67_96 ⟨fun w => ⟨⟨pos _ _ _ _, by decide⟩, ?_⟩, fun w => ⟨_, σ, g2, fun z => ⟨⟨pos _ _ _ _, by decide⟩, ?_⟩, fun z => ⟨⟨pos _ _ _ _, by decide⟩, ?_⟩⟩⟩
    · rw [or_4 _ _ _ _ y3 0 (by rw [noR2 (h7 w)]; rfl)]; exact s4 t7 h7
    · rw [or_4 _ _ _ _ y3 0 (by cases y3 <;> simp_all [biA])]; exact s4 t7 h7
    · rw [or_4 _ _ _ _ y3 4 (by cases y3 <;> simp_all [biA])]; exact s4 t7 h7
  have s2 : ∀ t6 t7 : Int, (t6 = 0 → tG T b ≠ 1) → (t7 = 0 → tV T b ≠ 1) → G (d + 2) P 67 82 [vr 62 0, vi l1, vi b, vi (e4A (x1 || y1) x2 x3 x4), vi (40 * b + (k : Int)), vi r, vi t6, vi t7] [] σ := by
    intro t6 t7 h6 h7
    refine b_67_82 ⟨fun w => ⟨⟨pos _ _ _ _, by decide⟩, ?_⟩, fun w => ⟨_, σ, g1, fun z => ⟨⟨pos _ _ _ _, by decide⟩, ?_⟩, fun z => ⟨⟨pos _ _ _ _, by decide⟩, ?_⟩⟩⟩
    · rw [or_2 _ _ _ _ y2 0 (by rw [noP1 (h6 w)]; rfl)]; exact s3 t7 h7
    · rw [or_2 _ _ _ _ y2 0 (by cases y2 <;> simp_all [biA])]; exact s3 t7 h7
    · rw [or_2 _ _ _ _ y2 2 (by cases y2 <;> simp_all [biA])]; exact s3 t7 h7
  have s1 : ∀ t6 t7 : Int, (t6 = 0 → tG T b ≠ 1) → (t7 = 0 → tV T b ≠ 1) → G (d + 2) P 67 68 [vr 62 0, vi l1, vi b, vi (e4A x1 x2 x3 x4), vi (40 * b + (k : Int)), vi r, vi t6, vi t7] [] σ := by
    intro t6 t7 h6 h7
    refine b_67_68 ⟨fun w => ⟨⟨pos _ _ _ _, by decide⟩, ?_⟩, fun w => ⟨_, σ, g0, fun z => ⟨⟨pos _ _ _ _, by decide⟩, ?_⟩, fun z => ⟨⟨pos _ _ _ _, by decide⟩, ?_⟩⟩⟩
    · rw [or_1 _ _ _ _ y1 0 (by rw [noP0 (h6 w)]; rfl)]; exact s2 t6 t7 h6 h7
    · rw [or_1 _ _ _ _ y1 0 (by cases y1 <;> simp_all [biA])]; exact s2 t6 t7 h6 h7
    · rw [or_1 _ _ _ _ y1 1 (by cases y1 <;> simp_all [biA])]; exact s2 t6 t7 h6 h7
  have s58 : ∀ t6 : Int, (t6 = 0 → tG T b ≠ 1) → G (d + 2) P 67 58 [vr 62 0, vi l1, vi b, vi (e4A x1 x2 x3 x4), vi (40 * b + (k : Int)), vi r, vi t6, vu] [] σ := by
    intro t6 h6
    refine b_67_58 ⟨hb, ?_⟩
    rw [e64]
    exact ⟨fun w => s1 t6 0 h6 (fun _ => w), fun w => s1 t6 1 h6 (fun z => absurd z (by decide))⟩
  have s48 : G (d + 2) P 67 48 [vr 62 0, vi l1, vi b, vi (e4A x1 x2 x3 x4), vi (40 * b + (k : Int)), vi r, vu, vu] [] σ := by
    refine b_67_48 ⟨hb, ?_⟩
    rw [e63]
    exact ⟨fun w => s58 0 (fun _ => w), fun w => s58 1 (fun z => absurd z (by decide))⟩
  refine b_67_29 ⟨irI (by omega) (by omega), hb, by rw [e65]; exact irI (by omega) (by omega), fun q => absurd q (by rw [e65]; omega), fun _ => ⟨hb, fun w => ?_, fun w => ?_⟩⟩
  · rw [show psM σ b = σ 73 0 b from rfl, if_pos w] at hr
    rw [← hr] at s48; exact s48
  · rw [show psM σ b = σ 73 0 b from rfl, if_neg w] at hr
    rw [← hr] at s48; exact s48
/-- layEffects -/
theorem m_effects (hT : TOKA T) (hW : welA T) (hM : MW T σ) (hP : PsOK T (psM σ)) (hO : ∀ b, isB b → NuOK T b (psM σ) (nuM σ b) (σ 76 0 b)) : ∃ σ', Rn (d + 3) 67 [vr 62 0] σ vu σ' ∧ Fm Cem σ σ' ∧ EfOK T (nuM σ) (psM σ) (efM σ') := by
  let PP : AV → SS → Prop := fun v σ' => v = vu ∧ Fm Cem σ σ' ∧ EfOK T (nuM σ) (psM σ) (efM σ')
  have hCk : ∀ σ1, Fm Cem σ σ1 → MW T σ1 ∧ nuM σ1 = nuM σ ∧ psM σ1 = psM σ ∧ ∀ b, σ1 76 0 b = σ 76 0 b := fun σ1 h => ⟨hM.keep hT h (fun t i j q => by unfold Cem at q; omega), nuM_keep h (fun t i j q => by unfold Cem at q; omega), ps_keepM h (fun t i j q => by unfold Cem at q; omega), fun b => h _ _ _ (by unfold Cem; omega)⟩
  have round : ∀ (m : Nat) (σ1 : SS), Fm Cem σ σ1 → EfUp T (nuM σ) (psM σ) (efM σ1) → 12 - cnE (efM σ1) < m → G (d + 2) PP 67 14 [vr 62 0, vi 1, vu, vu, vu, vu, vu, vu] [] σ1 := by
    intro m
    induction m with
    | zero => intro σ1 hF hU hc; have := cnE_le (efM σ1); omega
    | succ m ih =>
      intro σ1 hF hU hc
      have inner : ∀ (m2 k : Nat), k + m2 = 3 → ∀ σ2, Fm Cem σ σ2 → EfUp T (nuM σ) (psM σ) (efM σ2) → cnE (efM σ1) ≤ cnE (efM σ2) →
          ((cnE (efM σ1) + 1 ≤ cnE (efM σ2) → G (d + 2) PP 67 20 [vr 62 0, vi 1, vi (k : Int), vu, vu, vu, vu, vu] [] σ2) ∧
           ((∀ c : Int, 0 ≤ c → c < k → efV T (nuM σ) (psM σ) (efM σ2) c = efM σ2 c) → G (d + 2) PP 67 20 [vr 62 0, vi 0, vi (k : Int), vu, vu, vu, vu, vu] [] σ2)) := by
        intro m2
        induction m2 with
        | zero =>
          intro k hk σ2 hF2 hU2 hle
          refine ⟨fun h1 => b_67_20 ⟨fun _ => ih σ2 hF2 hU2 (by omega), fun q => absurd q (by omega)⟩, fun h2 => b_67_20 ⟨fun _ => ?_, fun q => absurd q (by omega)⟩⟩
          have fin : PP vu σ2 := ⟨rfl, hF2, hU2, fun b hb => by rw [h2 b hb.1 (by have := hb.2; omega)]; exact lbE.rf _⟩
          exact b_67_14 ⟨fun _ => fin, fun q => absurd rfl q⟩
        | succ m2 ih2 =>
          intro k hk σ2 hF2 hU2 hle
          have hkb : isB (k : Int) := by unfold isB; omega
          have hir : ir ((k : Int) + 1) := irI (by omega) (by omega)
          obtain ⟨c1, c2, c3, c4⟩ := hCk σ2 hF2
          have hn40 := (hT k hkb).1
          have e65 := (c1.1 k hkb).1
          have hset := EfUp_set hW hU2 hkb
          have hcn := cnE_up hU2.1 hset.1.1 hset.2
          have hE : ∀ c, isB c → 0 ≤ efM σ2 c := fun c hc => by obtain ⟨x1, x2, x3, x4, e⟩ := hU2.1 c hc; rw [e]; exact (e4_rng x1 x2 x3 x4).1
          have step : ∀ σ3, σ3 = up σ2 77 0 k (efV T (nuM σ) (psM σ) (efM σ2) k) → Fm Cem σ σ3 ∧ efM σ3 = setP (efM σ2) k (efV T (nuM σ) (psM σ) (efM σ2) k) := fun σ3 e3 => by
            refine ⟨by rw [e3]; exact hF2.up rfl, ?_⟩
            funext c
            unfold setP efM
            rw [e3]
            split
            · rename_i q; rw [q, up_eq ⟨rfl, rfl, rfl⟩]; rfl
            · rename_i q; rw [up_ne (by omega)]
          have i2 := fun σ3 e3 => ih2 (k + 1) (by omega) σ3 (step σ3 e3).1 (by rw [(step σ3 e3).2]; exact hset.1) (by rw [(step σ3 e3).2]; omega)
          rw [nat1] at i2
          -- the places
          have places : ∀ (l1 : Int), G (d + 2) PP 67 29 [vr 62 0, vi l1, vi (k : Int), vi (efV T (nuM σ) (psM σ) (efM σ2) k), vi (40 * (k : Int) + tN T k), vu, vu, vu] [] σ2 → G (d + 2) PP 67 20 [vr 62 0, vi l1, vi (k : Int), vu, vu, vu, vu, vu] [] σ2 := by
            intro l1 hlast
            have all : ∀ (m3 j : Nat), j + m3 = tN T k → G (d + 2) PP 67 29 [vr 62 0, vi l1, vi (k : Int), vi (efK T k (nuM σ2 k) (psM σ2) (efM σ2) j), vi (40 * (k : Int) + j), vu, vu, vu] [] σ2 := by
              intro m3
              induction m3 with
              | zero =>
                intro j hj
                obtain rfl : j = tN T k := by omega
                rw [c2, c3]; exact hlast
              | succ m3 ih3 =>
                intro j hj
                have i3 := ih3 (j + 1) (by omega)
                rw [nat1, show (40 * (k : Int) + ((j : Int) + 1)) = 40 * (k : Int) + j + 1 by omega] at i3
                exact m_eff1 hT hW hkb c1 (by rw [c3]; exact hP) (by rw [c2, c3, c4]; exact hO k hkb) hE (by omega) i3
            have := all (tN T k) 0 (by omega)
            refine b_67_20 ⟨fun q => absurd q (by omega), fun _ => ⟨irI (by omega) (by omega), ?_⟩⟩
            have e0 : efK T k (nuM σ2 k) (psM σ2) (efM σ2) 0 = 0 := rfl
            rw [e0] at this
            simpa using this
          have h40 : ir (40 * (k : Int)) := irI (by omega) (by omega)
          refine ⟨fun h1 => places 1 (b_67_29 ⟨h40, hkb, by rw [e65]; exact irI (by omega) (by omega), fun _ => ⟨fun _ => b_67_138 ⟨hkb, fun σ3 e3 => ⟨hir, (i2 σ3 e3).1 (by rw [(step σ3 e3).2]; omega)⟩⟩, fun q => absurd q (by decide)⟩, fun q => absurd q (by rw [e65]; omega)⟩), fun h2 => places 0 (b_67_29 ⟨h40, hkb, by rw [e65]; exact irI (by omega) (by omega), fun _ => ⟨fun q => absurd rfl q, fun _ => ⟨hkb, fun q => b_67_138 ⟨hkb, fun σ3 e3 => ⟨hir, (i2 σ3 e3).2 fun c g1 g2 => ?_⟩⟩, fun q => b_67_138 ⟨hkb, fun σ3 e3 => ⟨hir, (i2 σ3 e3).1 ?_⟩⟩⟩⟩, fun q => absurd q (by rw [e65]; omega)⟩)⟩
          · have same : efM σ3 = efM σ2 := by
              rw [(step σ3 e3).2]; funext c; unfold setP
              split
              · rename_i w; rw [w]; exact q
              · rfl
            rw [same]
            by_cases hck : c = k
            · rw [hck]; exact q
            · exact h2 c g1 (by omega)
          · rw [(step σ3 e3).2]
            have := hcn.2 ⟨k, hkb, fun w => q ?_⟩
            · omega
            · have e : setP (efM σ2) k (efV T (nuM σ) (psM σ) (efM σ2) k) k = efV T (nuM σ) (psM σ) (efM σ2) k := if_pos rfl
              rw [e] at w; exact w.symm
      refine b_67_14 ⟨fun q => absurd q (by decide), fun _ => ?_⟩
      exact (inner 3 0 (by omega) σ1 hF hU (Int.le_refl _)).2 (fun c h1 h2 => by omega)
  have zero : ∀ (m k : Nat), k + m = 3 → ∀ σ1, Fm Cem σ σ1 → (∀ c : Int, 0 ≤ c → c < k → σ1 77 0 c = 0) → G (d + 2) PP 67 2 [vr 62 0, vi (k : Int), vu, vu, vu, vu, vu, vu] [] σ1 := by
    intro m
    induction m with
    | zero =>
      intro k hk σ1 hF h0
      refine b_67_2 ⟨fun _ => ?_, fun q => absurd q (by omega)⟩
      have z : ∀ b, isB b → efM σ1 b = 0 := fun b hb => h0 b hb.1 (by have := hb.2; omega)
      have hU : EfUp T (nuM σ) (psM σ) (efM σ1) := ⟨fun b hb => by rw [z b hb]; exact V4_0, fun b hb => by rw [z b hb]; exact lbE_0 _, fun q _ _ b hb => by rw [z b hb]; exact lbE_0 _⟩
      exact round 13 σ1 hF hU (by have := cnE_le (efM σ1); omega)
    | succ m ih =>
      intro k hk σ1 hF h0
      have i1 := ih (k + 1) (by omega)
      rw [nat1] at i1
      refine b_67_2 ⟨fun q => absurd q (by omega), fun _ => ⟨by omega, fun σ2 e2 => ⟨irI (by omega) (by omega), i1 σ2 (by rw [e2]; exact hF.up rfl) fun c c1 c2 => ?_⟩⟩⟩
      by_cases q : c = k
      · rw [e2, up_eq ⟨rfl, rfl, q⟩]
      · rw [e2, up_ne (by omega)]; exact h0 c c1 (by omega)
  have : Ok (d + 3) 67 [vr 62 0] σ PP := G_ok rfl (b_67_0 (zero 3 0 (by omega) σ (Fm.rf σ) (fun c h1 h2 => by omega)))
  obtain ⟨v, σ', h1, rfl, h2, h3⟩ := this
  exact ⟨σ', h1, h2, h3⟩
def MLay (T : TP) (σ : SS) : Prop := PsOK T (psM σ) ∧ EfOK T (nuM σ) (psM σ) (efM σ) ∧ ∀ b, isB b → NuOK T b (psM σ) (nuM σ b) (σ 76 0 b) ∧ ∀ r : Int, 2 ≤ r → r < 2 + σ 76 0 b → ∃ h : Nat, σ 75 0 (44 * b + r) = 40 * b + h ∧ HmOK T b (nuM σ b) r h
def Cly : Nat → Int → Int → Prop := fun t _ _ => 67 ≤ t ∧ t ≤ 77
/-- layRegions -/
theorem m_lay (hT : TOKA T) (hM : MTx T σ) : ∃ w σ', Rn (d + 6) 62 [vr 62 0] σ (vi w) σ' ∧ Fm Cly σ σ' ∧ ((w = 1 ∧ welA T ∧ MW T σ' ∧ MLay T σ') ∨ (w = 0 ∧ ¬ welA T)) := by
  let PP : AV → SS → Prop := fun v σ' => ∃ w, v = vi w ∧ Fm Cly σ σ' ∧ ((w = 1 ∧ welA T ∧ MW T σ' ∧ MLay T σ') ∨ (w = 0 ∧ ¬ welA T))
  obtain ⟨w, σ1, r1, r2, r3⟩ := m_isWell (d := d) hT hM
  have hF1 : Fm Cly σ σ1 := r2.mono fun t i j q => by unfold Crm at q; unfold Cly; omega
  have : Ok (d + 6) 62 [vr 62 0] σ PP := by
    refine G_ok rfl (b_62x_0 ⟨w, σ1, r1, fun hw => ?_, fun hw => ⟨Or.inl rfl, 0, rfl, hF1, Or.inr ⟨rfl, ?_⟩⟩⟩)
    rotate_left
    · rcases r3 with r3 | r3
      · omega
      · exact r3.2
    obtain ⟨hw1, hW, hTr⟩ : w = 1 ∧ welA T ∧ ∀ b, isB b → MTr T b σ1 := by
      rcases r3 with r3 | r3
      · exact r3
      · omega
    have hM1 : MW T σ1 := ⟨hM.keep r2 (fun t i j q => by unfold Crm at q; omega), hTr⟩
    have kp : ∀ σ2, Fm (fun t _ _ => 72 ≤ t ∧ t ≤ 77) σ1 σ2 → MW T σ2 ∧ Fm Cly σ σ2 := fun σ2 h => ⟨hM1.keep hT h (fun t i j q => by omega), hF1.tr (h.mono fun t i j q => by unfold Cly; omega)⟩
    -- the last loop
    have last : ∀ (m k : Nat) (σ2 : SS), k + m = 3 → Fm (fun t _ _ => 72 ≤ t ∧ t ≤ 77) σ1 σ2 → PsOK T (psM σ2) → (∀ b, isB b → ∃ ρ h, FoA b σ2 ρ h ∧ EqL (rl ρ) (EdA T b (psM σ2))) → (∀ c : Int, 0 ≤ c → c < k → NuOK T c (psM σ2) (nuM σ2 c) (σ2 76 0 c) ∧ ∀ r : Int, 2 ≤ r → r < 2 + σ2 76 0 c → ∃ h : Nat, σ2 75 0 (44 * c + r) = 40 * c + h ∧ HmOK T c (nuM σ2 c) r h) →
        G (d + 5) PP 62 91 [vr 62 0, vu, vi (k : Int), vu] [] σ2 := by
      intro m
      induction m with
      | zero =>
        intro k σ2 hk hF2 g1 g2 g3
        have hO : ∀ b, isB b → _ := fun b hb => g3 b hb.1 (by have := hb.2; omega)
        obtain ⟨σ3, j1, j2, j3⟩ := m_effects (d := d + 2) hT hW (kp σ2 hF2).1 g1 (fun b hb => (hO b hb).1)
        have hF3 := hF2.tr (j2.mono (C' := fun t _ _ => 72 ≤ t ∧ t ≤ 77) fun t i j q => by unfold Cem at q; omega)
        have e1 : psM σ3 = psM σ2 := ps_keepM j2 fun t i j q => by unfold Cem at q; omega
        have e2 : nuM σ3 = nuM σ2 := nuM_keep j2 fun t i j q => by unfold Cem at q; omega
        have e3 : ∀ b, σ3 76 0 b = σ2 76 0 b := fun b => j2 _ _ _ (by unfold Cem; omega)
        have e4 : ∀ j, σ3 75 0 j = σ2 75 0 j := fun j => j2 _ _ _ (by unfold Cem; omega)
        refine b_62x_91 ⟨fun _ => ⟨σ3, j1, Or.inr rfl, 1, rfl, (kp σ3 hF3).2, Or.inl ⟨rfl, hW, (kp σ3 hF3).1, by rw [e1]; exact g1, by rw [e1, e2]; exact j3, fun b hb => ?_⟩⟩, fun q => absurd q (by omega)⟩
        rw [e1, e2, e3]
        refine ⟨(hO b hb).1, fun r a c => ?_⟩
        rw [e4]
        exact (hO b hb).2 r a c
      | succ m ih =>
        intro k σ2 hk hF2 g1 g2 g3
        have hkb : isB (k : Int) := by unfold isB; omega
        obtain ⟨ρ, h, f1, f2⟩ := g2 k hkb
        obtain ⟨σ3, j1, j2, j3⟩ := m_number (d := d + 2) hT hW hkb (kp σ2 hF2).1 f1 f2
        have hF3 := hF2.tr (j2.mono (C' := fun t _ _ => 72 ≤ t ∧ t ≤ 77) fun t i j q => by unfold Cnm at q; omega)
        obtain ⟨σ4, y1, y2, y3⟩ := m_homes (d := d + 3) hT hW hkb (kp σ3 hF3).1 j3
        have hF4 := hF3.tr (y2.mono (C' := fun t _ _ => 72 ≤ t ∧ t ≤ 77) fun t i j q => by omega)
        have e1 : psM σ4 = psM σ2 := (ps_keepM y2 fun t i j q => by omega).trans (ps_keepM j2 fun t i j q => by unfold Cnm at q; omega)
        have e2 : nuM σ4 = nuM σ3 := nuM_keep y2 fun t i j q => by omega
        have e3 : ∀ b, σ4 76 0 b = σ3 76 0 b := fun b => y2 _ _ _ (by omega)
        have i1 := ih (k + 1) σ4 (by omega) hF4 (by rw [e1]; exact g1) (fun b hb => by
          obtain ⟨ρ', h', q1, q2⟩ := g2 b hb
          exact ⟨ρ', h', (q1.keep j2 fun t i j q w => by unfold Cnm at q; unfold Cst at w; omega).keep y2 fun t i j q w => by unfold Cst at w; omega, by rw [e1]; exact q2⟩) (fun c c1 c2 => by
          rw [e1, e2, e3]
          by_cases hc : c = k
          · subst hc; exact ⟨j3, y3⟩
          · obtain ⟨z1, z2⟩ := g3 c c1 (by omega)
            have n3 : nuM σ3 c = nuM σ2 c ∨ True := Or.inr trivial
            have en : ∀ p : Nat, p < tN T c → nuM σ3 c p = nuM σ2 c p := fun p hp => by
              have hcb : isB c := by unfold isB; omega
              have := (hT c hcb).1
              exact j2 _ _ _ (by unfold Cnm; omega)
            have e6 : σ3 76 0 c = σ2 76 0 c := j2 _ _ _ (by unfold Cnm; omega)
            rw [e6]
            have hcb : isB c := by unfold isB; omega
            have hgc := (hW c hcb).1
            refine ⟨NuTo_cong z1 en, fun r a b' => ?_⟩
            obtain ⟨h, h1, h2, h3, h4, h5⟩ := z2 r a b'
            have hr : r < 42 := by have := (NuOK_facts z1).2.1; have := (hT c hcb).1; omega
            refine ⟨h, by rw [y2 _ _ _ (by omega), j2 _ _ _ (by unfold Cnm; omega)]; exact h1, h2, h3, fun t ht hta => h4 t ht ((toA_cong hgc en ht).mp hta), fun h' a1 a2 a3 => h5 h' a1 a2 fun t ht hta => a3 t ht ((toA_cong hgc en ht).mpr hta)⟩)
        rw [nat1] at i1
        exact b_62x_91 ⟨fun q => absurd q (by omega), fun _ => ⟨σ3, j1, σ4, y1, irI (by omega) (by omega), i1⟩⟩
    -- passes, round by round
    have round : ∀ (m : Nat) (σ2 : SS), Fm (fun t _ _ => 72 ≤ t ∧ t ≤ 77) σ1 σ2 → PsUp T (psM σ2) → 3 - cn3 (psM σ2) < m → G (d + 5) PP 62 19 [vr 62 0, vi 1, vu, vu] [] σ2 := by
      intro m
      induction m with
      | zero => intro σ2 hF2 hU hc; have := cn3_le hU; omega
      | succ m ih =>
        intro σ2 hF2 hU hc
        -- the new passes, the old ones being p0
        have upd : ∀ (p0 : Int → Int), PsUp T p0 → cn3 p0 = cn3 (psM σ2) → ∀ (m2 k : Nat), k + m2 = 3 → ∀ σ3, Fm (fun t _ _ => 72 ≤ t ∧ t ≤ 77) σ1 σ3 → PsUp T (psM σ3) → leP p0 (psM σ3) → (∀ c : Int, (k : Int) ≤ c → c < 3 → psM σ3 c = p0 c) → (∀ b, isB b → ∃ ρ h, FoA b σ3 ρ h ∧ EqL (rl ρ) (EdA T b p0)) →
            (∀ c : Int, 0 ≤ c → c < k → (psM σ3 c = 1 ↔ reA T c p0 40 41)) →
            ((cn3 p0 + 1 ≤ cn3 (psM σ3) → G (d + 5) PP 62 35 [vr 62 0, vi 1, vi (k : Int), vu] [] σ3) ∧ ((∀ c, isB c → psM σ3 c = p0 c) → G (d + 5) PP 62 35 [vr 62 0, vi 0, vi (k : Int), vu] [] σ3)) := by
          intro p0 hp0 hcn m2
          induction m2 with
          | zero =>
            intro k hk σ3 hF3 hU3 hle hsame hfo hdone
            refine ⟨fun h1 => b_62x_35 ⟨fun _ => ih σ3 hF3 hU3 (by omega), fun q => absurd q (by omega)⟩, fun h2 => b_62x_35 ⟨fun _ => b_62x_19 ⟨fun _ => last 3 0 σ3 (by omega) hF3 ⟨hU3, fun b hb hre => ?_⟩ (fun b hb => ?_) (fun c c1 c2 => by omega), fun q => absurd rfl q⟩, fun q => absurd q (by omega)⟩⟩
            · exact (hdone b hb.1 (by have := hb.2; omega)).mpr ((re_cong hW hb hU3.1 h2).mp hre)
            · obtain ⟨ρ, h, f1, f2⟩ := hfo b hb
              exact ⟨ρ, h, f1, f2.cong (fun x y => ed_mono (of_BB hW hb) hp0.1 fun c hc e => by rw [h2 c hc]; exact e) (fun x y => ed_mono (of_BB hW hb) hU3.1 fun c hc e => by rw [← h2 c hc]; exact e)⟩
          | succ m2 ih2 =>
            intro k hk σ3 hF3 hU3 hle hsame hfo hdone
            have hkb : isB (k : Int) := by unfold isB; omega
            have hir : ir ((k : Int) + 1) := irI (by omega) (by omega)
            obtain ⟨hM3, -⟩ := kp σ3 hF3
            have ek : psM σ3 k = p0 k := hsame k (Int.le_refl _) (by omega)
            obtain ⟨ρ, h, f1, f2⟩ := hfo k hkb
            -- the new value
            have fin : ∀ v : Int, ((v = 1 ∧ reA T k p0 40 41) ∨ (v = 0 ∧ ¬ reA T k p0 40 41)) →
                ((cn3 p0 + 1 ≤ cn3 (psM σ3) → G (d + 5) PP 62 68 [vr 62 0, vi 1, vi (k : Int), vu] [vi v] σ3) ∧ ((∀ c, isB c → psM σ3 c = p0 c) → G (d + 5) PP 62 68 [vr 62 0, vi 0, vi (k : Int), vu] [vi v] σ3)) := by
              intro v hv
              have hset := PsUp_set hW hU3 hp0 hle hkb hv (fun e => by rw [← ek]; exact e)
              have hcnu := cn3_up hU3 hset.1 hset.2
              have step : ∀ σ4, σ4 = up σ3 73 0 k v → Fm (fun t _ _ => 72 ≤ t ∧ t ≤ 77) σ1 σ4 ∧ psM σ4 = setP (psM σ3) k v := fun σ4 e4 => by
                refine ⟨by rw [e4]; exact hF3.up ⟨by omega, by omega⟩, ?_⟩
                funext c
                unfold setP psM
                rw [e4]
                split
                · rename_i q; rw [q, up_eq ⟨rfl, rfl, rfl⟩]
                · rename_i q; rw [up_ne (by omega)]
              have i2 := fun σ4 (e4 : σ4 = up σ3 73 0 k v) => ih2 (k + 1) (by omega) σ4 (step σ4 e4).1 (by rw [(step σ4 e4).2]; exact hset.1) (fun b hb e => by rw [(step σ4 e4).2]; exact hset.2 b hb (hle b hb e)) (fun c c1 c2 => by
                  rw [(step σ4 e4).2]; unfold setP; rw [if_neg (by omega)]; exact hsame c (by omega) c2) (fun b hb => by
                  obtain ⟨ρ', h', q1, q2⟩ := hfo b hb
                  refine ⟨ρ', h', ?_, q2⟩
                  rw [e4]
                  exact q1.keep ((Fm.rf σ3).up (C := fun t _ _ => t = 73) rfl) fun t i j q w => by unfold Cst at w; omega) (fun c c1 c2 => by
                  rw [(step σ4 e4).2]; unfold setP
                  by_cases hc : c = k
                  · rw [if_pos hc, hc]
                    rcases hv with hv | hv
                    · exact ⟨fun _ => hv.2, fun _ => hv.1⟩
                    · exact ⟨fun z => by omega, fun z => absurd z hv.2⟩
                  · rw [if_neg hc]; exact hdone c c1 (by omega))
              rw [nat1] at i2
              have v01 : v = 0 ∨ v = 1 := by omega
              refine ⟨fun h1 => b_62x_68 ⟨fun _ => b_62x_77 (b_62x_80 ⟨⟨hkb, v01⟩, fun σ4 e4 => ⟨hir, (i2 σ4 e4).1 (by rw [(step σ4 e4).2]; omega)⟩⟩), fun q => absurd q (by decide)⟩, fun h2 => b_62x_68 ⟨fun q => absurd rfl q, fun _ => ⟨hkb, fun q => b_62x_80 ⟨⟨hkb, v01⟩, fun σ4 e4 => ⟨hir, (i2 σ4 e4).2 fun c hc => ?_⟩⟩, fun q => b_62x_77 (b_62x_80 ⟨⟨hkb, v01⟩, fun σ4 e4 => ⟨hir, (i2 σ4 e4).1 ?_⟩⟩)⟩⟩⟩
              · rw [(step σ4 e4).2]; unfold setP
                by_cases hck : c = k
                · rw [if_pos hck, hck]; exact q.trans (h2 k hkb)
                · rw [if_neg hck]; exact h2 c hc
              · rw [(step σ4 e4).2]
                have := hcnu.2 ⟨k, hkb, fun z => q ?_⟩
                · have z0 : isB 0 := by unfold isB; omega
                  have z1 : isB 1 := by unfold isB; omega
                  have z2 : isB 2 := by unfold isB; omega
                  have y0 := h2 0 z0; have y1 := h2 1 z1; have y2 := h2 2 z2
                  have : cn3 (psM σ3) = cn3 p0 := by unfold cn3; omega
                  omega
                · have e : setP (psM σ3) k v k = v := if_pos rfl
                  rw [e] at z; exact z.symm
            have zero : ¬ reA T k p0 40 41 → ((cn3 p0 + 1 ≤ cn3 (psM σ3) → G (d + 5) PP 62 67 [vr 62 0, vi 1, vi (k : Int), vu] [] σ3) ∧ ((∀ c, isB c → psM σ3 c = p0 c) → G (d + 5) PP 62 67 [vr 62 0, vi 0, vi (k : Int), vu] [] σ3)) := fun q => ⟨fun h1 => b_62x_67 ((fin 0 (Or.inr ⟨rfl, q⟩)).1 h1), fun h2 => b_62x_67 ((fin 0 (Or.inr ⟨rfl, q⟩)).2 h2)⟩
            have r40 := m_root (d := d + 4) hkb f1 (show 40 < 42 by omega)
            have r41 := m_root (d := d + 4) hkb f1 (show 41 < 42 by omega)
            rw [show ((40 : Nat) : Int) = 40 from rfl] at r40
            rw [show ((41 : Nat) : Int) = 41 from rfl] at r41
            have hre : ρ 40 = ρ 41 ↔ reA T k p0 40 41 := by
              have := f2 40 41 (by omega) (by omega)
              unfold rl at this
              constructor
              · intro q; exact this.mp (by rw [q])
              · intro q; have := this.mpr q; omega
            have j0 : ir (42 * (k : Int)) := irI (by omega) (by omega)
            have j40 : ir (42 * (k : Int) + 40) := irI (by omega) (by omega)
            have j41 : ir (42 * (k : Int) + 41) := irI (by omega) (by omega)
            have e63 := (hM3.1 k hkb).2.1
            have e64 := (hM3.1 k hkb).2.2.1
            refine ⟨fun h1 => b_62x_35 ⟨fun q => absurd q (by omega), fun _ => ⟨hkb, ?_⟩⟩, fun h1 => b_62x_35 ⟨fun q => absurd q (by omega), fun _ => ⟨hkb, ?_⟩⟩⟩ <;> rw [e63, e64]
            · refine ⟨fun q => (zero fun z => q (re_PR hT hW hkb z).1).1 h1, fun q => ⟨hkb, fun q => (zero fun z => q (re_PR hT hW hkb z).2).1 h1, fun q => ⟨j0, j40, _, σ3, r40, j0, j41, _, σ3, r41, fun u => (zero fun z => u (by rw [hre.mpr z])).1 h1, fun u => (fin 1 (Or.inl ⟨rfl, hre.mp (by omega)⟩)).1 h1⟩⟩⟩
            · refine ⟨fun q => (zero fun z => q (re_PR hT hW hkb z).1).2 h1, fun q => ⟨hkb, fun q => (zero fun z => q (re_PR hT hW hkb z).2).2 h1, fun q => ⟨j0, j40, _, σ3, r40, j0, j41, _, σ3, r41, fun u => (zero fun z => u (by rw [hre.mpr z])).2 h1, fun u => (fin 1 (Or.inl ⟨rfl, hre.mp (by omega)⟩)).2 h1⟩⟩⟩
        have uni : ∀ (m2 k : Nat) (σ3 : SS), k + m2 = 3 → Fm (fun t _ _ => 72 ≤ t ∧ t ≤ 77) σ1 σ3 → psM σ3 = psM σ2 → (∀ c : Int, 0 ≤ c → c < k → ∃ ρ h, FoA c σ3 ρ h ∧ EqL (rl ρ) (EdA T c (psM σ2))) → G (d + 5) PP 62 25 [vr 62 0, vi 0, vi (k : Int), vu] [] σ3 := by
          intro m2
          induction m2 with
          | zero =>
            intro k σ3 hk hF3 hps hfo
            refine b_62x_25 ⟨fun _ => ?_, fun q => absurd q (by omega)⟩
            refine (upd (psM σ2) hU rfl 3 0 (by omega) σ3 hF3 (by rw [hps]; exact hU) (fun b hb e => by rw [hps]; exact e) (fun c c1 c2 => by rw [hps]) (fun b hb => hfo b hb.1 (by have := hb.2; omega)) (fun c c1 c2 => by omega)).2 (fun c hc => by rw [hps])
          | succ m2 ih2 =>
            intro k σ3 hk hF3 hps hfo
            have hkb : isB (k : Int) := by unfold isB; omega
            obtain ⟨σ4, y1, y2, ρ, h, y3, y4⟩ := m_uniteAll (d := d + 2) hT hW hkb (kp σ3 hF3).1
            have e1 : psM σ4 = psM σ3 := ps_keepM y2 fun t i j q => by unfold Cst at q; omega
            rw [hps] at y4
            have i1 := ih2 (k + 1) σ4 (by omega) (hF3.tr (y2.mono fun t i j q => by unfold Cst at q; omega)) (by rw [e1, hps]) (fun c c1 c2 => by
              by_cases hc : c = k
              · subst hc; exact ⟨ρ, h, y3, y4⟩
              · obtain ⟨ρ', h', q1, q2⟩ := hfo c c1 (by omega)
                exact ⟨ρ', h', q1.keep y2 fun t i j q w => by unfold Cst at q w; omega, q2⟩)
            rw [nat1] at i1
            exact b_62x_25 ⟨fun q => absurd q (by omega), fun _ => ⟨σ4, y1, irI (by omega) (by omega), i1⟩⟩
        exact b_62x_19 ⟨fun q => absurd q (by decide), fun _ => uni 3 0 σ2 (by omega) hF2 rfl (fun c c1 c2 => by omega)⟩
    have zero : ∀ (m k : Nat), k + m = 3 → ∀ σ2, Fm (fun t _ _ => 72 ≤ t ∧ t ≤ 77) σ1 σ2 → (∀ c : Int, 0 ≤ c → c < k → σ2 73 0 c = 0) → G (d + 5) PP 62 7 [vr 62 0, vi (k : Int), vu, vu] [] σ2 := by
      intro m
      induction m with
      | zero =>
        intro k hk σ2 hF h0
        refine b_62x_7 ⟨fun _ => ?_, fun q => absurd q (by omega)⟩
        have z : ∀ b, isB b → psM σ2 b = 0 := fun b hb => h0 b hb.1 (by have := hb.2; omega)
        have hU : PsUp T (psM σ2) := ⟨fun b hb => Or.inl (z b hb), fun b hb e => by have := z b hb; omega, fun q _ _ b hb e => by have := z b hb; omega⟩
        exact round 4 σ2 hF hU (by have := cn3_le hU; omega)
      | succ m ih =>
        intro k hk σ2 hF h0
        have i1 := ih (k + 1) (by omega)
        rw [nat1] at i1
        refine b_62x_7 ⟨fun q => absurd q (by omega), fun _ => ⟨⟨by omega, Or.inl rfl⟩, fun σ3 e3 => ⟨irI (by omega) (by omega), i1 σ3 (by rw [e3]; exact hF.up ⟨by omega, by omega⟩) fun c c1 c2 => ?_⟩⟩⟩
        by_cases q : c = k
        · rw [e3, up_eq ⟨rfl, rfl, q⟩]
        · rw [e3, up_ne (by omega)]; exact h0 c c1 (by omega)
    exact zero 3 0 (by omega) σ1 (Fm.rf σ1) (fun c h1 h2 => by omega)
  obtain ⟨v, σ', h1, w, rfl, h2, h3⟩ := this
  exact ⟨w, σ', h1, h2, h3⟩
end MLAY2
