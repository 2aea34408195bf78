/-! ===== a run begins: the layouts are one ===== -/
theorem hm_cong {T : TP} {b : Int} (hg : GoodA (tN T b) (tS T b)) {nu nu' : Nat → Int} (h : ∀ k, k < tN T b → nu k = nu' k) {r : Int} {k : Nat} (hh : HmOK T b nu r k) : HmOK T b nu' r k := by
  obtain ⟨h1, h2, h3, h4⟩ := hh
  exact ⟨h1, h2, fun t ht q => h3 t ht ((toA_cong hg h ht).mpr q), fun k' a c w => h4 k' a c fun t ht q => w t ht ((toA_cong hg h ht).mp q)⟩
theorem lay_eq {T : TP} {β τ : SS} (hLy : LyC T β) (hM : MLay T τ) : (∀ b, isB b → τ 73 0 b = β 4 b 6) ∧ LyE β τ ∧ (∀ b, isB b → ∀ p : Nat, p < tN T b → τ 74 0 (40 * b + p) = β 47 b p) := by
  obtain ⟨hT, hW, hCW, hP, hE, hL⟩ := hLy
  obtain ⟨mP, mE, mL⟩ := hM
  have e1 := PsOK_uniq mP hP
  have e2 : ∀ b, isB b → τ 76 0 b = β 4 b 8 ∧ ∀ k, k < tN T b → nuM τ b k = nuF β b k := fun b hb => NuOK_uniq (fun x y => re_cong hW hb mP.1.1 e1) (mL b hb).1 (hL b hb).1
  refine ⟨e1, fun b hb => ⟨(e2 b hb).1, fun r a c => ?_⟩, fun b hb p hp => (e2 b hb).2 p hp⟩
  obtain ⟨h, k1, k2⟩ := (hL b hb).2.2 r a c
  obtain ⟨h', k3, k4⟩ := (mL b hb).2 r a (by rw [(e2 b hb).1]; exact c)
  rw [k3, k1, HmOK_uniq (hm_cong (hW b hb).1 (e2 b hb).2 k4) k2]
section BEGIN2
variable {T : TP} {β : SS} {d d' : Nat}
def zrS (σ : SS) : SS := up (up (up (up (up (up (up (up (up (up σ 32 0 3 0) 32 0 4 0) 32 0 5 0) 32 0 6 0) 32 0 7 0) 32 0 8 0) 32 0 9 0) 32 0 10 0) 32 0 11 0) 32 0 12 0
theorem zr_0 {σ : SS} (j : Int) (h1 : 3 ≤ j) (h2 : j ≤ 12) : zrS σ 32 0 j = 0 := by
  unfold zrS
  rcases (show j = 12 ∨ j = 11 ∨ j = 10 ∨ j = 9 ∨ j = 8 ∨ j = 7 ∨ j = 6 ∨ j = 5 ∨ j = 4 ∨ j = 3 by omega) with rfl | rfl | rfl | rfl | rfl | rfl | rfl | rfl | rfl | rfl <;> rfl
theorem zr_F {σ : SS} : Fm (fun t _ j => t = 32 ∧ 3 ≤ j ∧ j ≤ 12) σ (zrS σ) := by
  unfold zrS
  refine ((((((((((Fm.rf σ).up ?_).up ?_).up ?_).up ?_).up ?_).up ?_).up ?_).up ?_).up ?_).up ?_ <;> omega
def bgS (σ : SS) (b n : Int) : SS := up (up (up (up (up (up (up (zrS σ) 1 0 10 0) 1 0 11 0) 1 0 12 0) 1 0 13 0) 1 0 14 1) 54 0 0 b) 55 0 0 n
theorem bg_F {σ : SS} {b n : Int} : Fm (fun t _ j => (t = 32 ∧ 3 ≤ j ∧ j ≤ 12) ∨ (t = 1 ∧ 10 ≤ j ∧ j ≤ 14) ∨ t = 54 ∨ t = 55) σ (bgS σ b n) := by
  unfold bgS
  refine (((((((zr_F.mono fun t i j q => by omega).up ?_).up ?_).up ?_).up ?_).up ?_).up ?_).up ?_ <;> omega
def zrM (τ : SS) : SS := up (up (up (up (up (up (up (up (up (up (up (up (up (up τ 62 0 19 0) 62 0 24 0) 62 0 28 0) 62 0 30 0) 62 0 31 0) 62 0 32 0) 62 0 33 0) 62 0 34 0) 62 0 35 0) 62 0 36 0) 62 0 37 0) 62 0 38 0) 62 0 39 0) 62 0 40 0
theorem zrM_0 {τ : SS} (j : Int) (h : j = 19 ∨ j = 24 ∨ j = 28 ∨ (30 ≤ j ∧ j ≤ 40)) : zrM τ 62 0 j = 0 := by
  unfold zrM
  rcases (show j = 40 ∨ j = 39 ∨ j = 38 ∨ j = 37 ∨ j = 36 ∨ j = 35 ∨ j = 34 ∨ j = 33 ∨ j = 32 ∨ j = 31 ∨ j = 30 ∨ j = 28 ∨ j = 24 ∨ j = 19 by omega) with rfl | rfl | rfl | rfl | rfl | rfl | rfl | rfl | rfl | rfl | rfl | rfl | rfl | rfl <;> rfl
theorem zrM_F {τ : SS} : Fm (fun t _ _ => t = 62) τ (zrM τ) := by
  unfold zrM
  refine ((((((((((((((Fm.rf τ).up ?_).up ?_).up ?_).up ?_).up ?_).up ?_).up ?_).up ?_).up ?_).up ?_).up ?_).up ?_).up ?_).up ?_ <;> rfl
theorem begin_ok {σ : SS} (hLy : LyC T σ) {b : Int} (hb : isB b) {n : Int} (hn : 0 ≤ n ∧ n ≤ 999) :
    ∃ g σb, g ≤ 2 ∧ Rn (d + 3) 115 [vr 1 0, vr 4 b, vi b, vi n] σ vu σb ∧ RI T σ g b σb [(b, 0, 0, 0)] ∧ σb 1 0 12 = 0 ∧
      ∀ τ, MTx T τ → ∃ τb, (∀ {P : AV → SS → Prop}, G (d' + 6) P 81 98 [vr 62 0, vu, vu, vu, vu, vu] [] τb → G (d' + 6) P 81 0 [vr 62 0, vi b, vi n, vu, vu, vu] [] τ) ∧ RR T σ b σb τb [(b, 0, 0, 0)] ∧ Fm Cmr τ τb := by
  obtain ⟨hT, hW, hCW, hLay⟩ := id hLy
  have hb' := hb
  unfold isB at hb'
  have hgo := good_0 (hW b hb).1
  obtain ⟨t1, t2, t3, t4⟩ := hCW.1 b hb
  obtain ⟨σ8, e8⟩ : ∃ σ8, σ8 = bgS σ b n := ⟨_, rfl⟩
  have f8 : Fm (fun t _ j => (t = 32 ∧ 3 ≤ j ∧ j ≤ 12) ∨ (t = 1 ∧ 10 ≤ j ∧ j ≤ 14) ∨ t = 54 ∨ t = 55) σ σ8 := by rw [e8]; exact bg_F
  have z8 : ∀ j : Int, 3 ≤ j → j ≤ 12 → σ8 32 0 j = 0 := fun j h1 h2 => by rw [e8]; exact zr_0 j h1 h2
  have k10 : σ8 1 0 10 = 0 := by rw [e8]; rfl
  have k12 : σ8 1 0 12 = 0 := by rw [e8]; rfl
  have k13 : σ8 1 0 13 = 0 := by rw [e8]; rfl
  have k14 : σ8 1 0 14 = 1 := by rw [e8]; rfl
  have k54 : σ8 54 0 0 = b := by rw [e8]; rfl
  have k55 : σ8 55 0 0 = n := by rw [e8]; rfl
  have hF8 : Fm Crun σ σ8 := f8.mono fun t i j q => by unfold Crun; omega
  obtain ⟨σA, oA, a1, a2, a3, a4, a5, ⟨a6, a7⟩, a8⟩ := beg1 (d := d) (d' := d') hLy hb hn hF8 z8 k55
  obtain ⟨σB, oB, b1, b2, b3, b4, b5, b6, ⟨b7, b8⟩, b9⟩ := beg2 (d := d) (d' := d') a1 a2 (tV T b = 1 ∧ σ 4 b 6 = 0) (Classical.em _)
  have fB : Fm (fun t _ j => t = 32 ∨ t = 57 ∨ t = 58 ∨ t = 59 ∨ t = 60 ∨ (t = 55 ∧ j = 0)) σ8 σB := a3.tr (b4.mono fun t i j q => by omega)
  have hFB : Fm Crun σ σB := hF8.tr (fB.mono fun t i j q => by unfold Crun; omega)
  have hsl : slotOK T ((b, 0, 0, 0) : SL) := ⟨hb, Nat.zero_le _, hgo.1, hgo.2, Nat.zero_le _, fun q => absurd q (by show ¬ 1 ≤ (0 : Nat); omega), fun q => absurd q (by show ¬ (0 : Nat) = 2; omega)⟩
  have hc : Chn T b [((b, 0, 0, 0) : SL)] := ⟨hsl, rfl, rfl, rfl⟩
  have l12 : σB 1 0 12 = 0 := (fB _ _ _ (by omega)).trans k12
  have l13 : σB 1 0 13 = 0 := (fB _ _ _ (by omega)).trans k13
  have l54 : σB 54 0 0 = b := (fB _ _ _ (by omega)).trans k54
  have l55 : σB 55 0 0 = σA 55 0 0 := b4 _ _ _ (by omega)
  have l570 : σB 57 0 0 = σA 57 0 0 := b4 _ _ _ (by omega)
  obtain ⟨σb, r1, r2, r3, r4⟩ := push_ok (g := oB) (d := d) (d' := d' + 5) hLy (x := (b, 0, 0, 0)) (L := []) hc rfl hFB ((fB _ _ _ (by omega)).trans k10) trivial (by rw [l12]; exact b1.mono (by omega)) ((fB _ _ _ (by omega)).trans k14) (by rw [l12]; omega) (by rw [l12, l13]; exact ⟨Int.le_refl _, Int.le_refl _⟩) l54 (by
      show vkA (tG T b) (σB 55 0 0) (σB 32 0 6)
      rw [l55, b5]; exact a4) (fun q => by
      show 0 ≤ σB 57 0 0 ∧ σB 57 0 0 < (oB : Int)
      obtain ⟨z1, z2⟩ := a5 q
      rw [l570, z2]; omega) (fun q w => by
      show 0 ≤ σB 57 0 1 ∧ σB 57 0 1 < (oB : Int)
      obtain ⟨z1, z2⟩ := b6 ⟨q, w⟩
      rw [z2]; omega)
  refine ⟨oB, σb, b2, G_rn rfl (b_115_0 ⟨zrS σ, G_rn rfl (b_127_0 (d := d + 1) fun σ1 e1 σ2 e2 σ3 e3 σ4 e4 σ5 e5 σ6 e6 σ7 e7 σ8 e8 σ9 e9 σ10 e10 => ⟨rfl, by rw [e10, e9, e8, e7, e6, e5, e4, e3, e2, e1]; rfl⟩), fun σ2 q2 σ3 q3 σ4 q4 σ5 q5 => ⟨Or.inr rfl, fun σ6 q6 σ7 q7 σy qy => ?_⟩⟩), r2, by rw [r3]; exact l12, fun τ hMT => ?_⟩
  · rw [us_in ⟨by omega, by omega⟩] at q7 qy
    obtain rfl : σ8 = σy := by rw [e8, qy, q7, q6, q5, q4, q3, q2]; rfl
    have g2 : σ8 6 b 2 = tG T b := (f8 _ _ _ (by omega)).trans t2
    have g3 : σ8 6 b 3 = tV T b := (f8 _ _ _ (by omega)).trans t3
    have g6 : σ8 4 b 6 = σ 4 b 6 := f8 _ _ _ (by omega)
    have r1' : Rn (d + 2) 118 [vr 1 0, vi 0, vi 0] σB vu σb := r1
    rw [g2, g3, g6]
    refine ⟨fun q => ?_, fun q => ?_⟩
    · obtain rfl := a7 q
      refine ⟨fun w => ⟨σb, by rw [b8 (fun z => w z.1)] at r1'; exact r1', rfl, rfl⟩, fun w => ⟨fun z => ⟨σb, by rw [b8 (fun y => z y.2)] at r1'; exact r1', rfl, rfl⟩, fun z => ?_⟩⟩
      obtain ⟨σ1, y1, y2⟩ := b7 ⟨w, z⟩
      exact ⟨_, σ1, y1, σB, y2, σb, r1', rfl, rfl⟩
    · obtain ⟨σ1, σ2', σ3', y1, y2, y3, y4⟩ := a6 q
      refine ⟨0, σ1, y1, σ2', y2, 0, σ3', y3, fun σ20 e20 => ?_⟩
      obtain rfl : σA = σ20 := y4.trans e20.symm
      have h3 : σA 6 b 3 = tV T b := (a3 _ _ _ (by omega)).trans g3
      have h6 : σA 4 b 6 = σ 4 b 6 := (a3 _ _ _ (by omega)).trans g6
      rw [h3, h6]
      refine ⟨fun w => ⟨σb, by rw [b8 (fun z => w z.1)] at r1'; exact r1', rfl, rfl⟩, fun w => ⟨fun z => ⟨σb, by rw [b8 (fun y => z y.2)] at r1'; exact r1', rfl, rfl⟩, fun z => ?_⟩⟩
      obtain ⟨σ1', y1', y2'⟩ := b7 ⟨w, z⟩
      exact ⟨_, σ1', y1', σB, y2', σb, r1', rfl, rfl⟩
  · obtain ⟨w, τ1, m1, m2, m3⟩ := m_lay (d := d') hT hMT
    rcases m3 with ⟨hw, -, hMW, hML⟩ | ⟨-, hnw⟩
    rotate_left
    · exact absurd hW hnw
    obtain ⟨τz, ez⟩ : ∃ τz, τz = zrM τ1 := ⟨_, rfl⟩
    have fz : Fm (fun t _ _ => t = 62) τ1 τz := by rw [ez]; exact zrM_F
    have z0 : ∀ j : Int, (j = 19 ∨ j = 24 ∨ j = 28 ∨ (30 ≤ j ∧ j ≤ 40)) → τz 62 0 j = 0 := fun j h => by rw [ez]; exact zrM_0 j h
    have hSRz : SR σ8 τz := by
      refine ⟨by rw [z0 _ (by omega), z8 _ (by omega) (by omega)], fun r h1 h2 => by rw [z8 _ (by omega) (by omega)] at h2; omega, fun i h1 h2 => by rw [z8 _ (by omega) (by omega)] at h2; omega, ?_, ?_, ?_, ?_, ?_, ?_, ?_, ?_, ?_⟩ <;> rw [z0 _ (by omega), z8 _ (by omega) (by omega)]
    obtain ⟨e73, eLy, e74⟩ := lay_eq hLy hML
    obtain ⟨τA, p1, p2, p3, p4⟩ := a8 τz hSRz
    obtain ⟨τB, s1, s2, s3, s4⟩ := b9 τA p1
    have fzB : Fm (fun t i j => t = 62 ∨ Cstm t i j) τ1 τB := ((fz.mono fun t i j q => Or.inl q).tr (p2.mono fun t i j q => Or.inr q)).tr (s2.mono fun t i j q => Or.inr q)
    have kAB : ∀ j : Int, (j = 19 ∨ j = 24 ∨ j = 30 ∨ j = 37) → τB 62 0 j = 0 := fun j h => by rw [s2 _ _ _ (by unfold Cstm; omega), p2 _ _ _ (by unfold Cstm; omega)]; exact z0 j (by omega)
    obtain ⟨v0, hv0⟩ : ∃ v0, v0 = σA 55 0 0 + tG T b := ⟨_, rfl⟩
    obtain ⟨n0, hn0⟩ : ∃ n0 : Int, n0 = 0 := ⟨_, rfl⟩
    obtain ⟨n1, hn1⟩ : ∃ n1 : Int, n1 = (if tV T b = 1 ∧ σ 4 b 6 = 0 then (oA : Int) else 0) := ⟨_, rfl⟩
    have hfr := m_frame (d := d' + 5) (τ := τB) (h := 0) (o := b) (v := v0) (r0 := n0) (r1 := n1) (kAB 24 (by omega)) (by omega)
    obtain ⟨τ5, e5⟩ : ∃ τ5, τ5 = up (up (up (up (up τB 82 0 ((0 : Nat) : Int) b) 83 0 ((0 : Nat) : Int) v0) 85 0 (44 * ((0 : Nat) : Int)) n0) 85 0 (44 * ((0 : Nat) : Int) + 1) n1) 62 0 24 (((0 : Nat) : Int) + 1) := ⟨_, rfl⟩
    rw [← e5] at hfr
    have g5 : Fm (fun t _ j => (t = 82 ∨ t = 83 ∨ t = 85) ∨ (t = 62 ∧ j = 24)) τB τ5 := by rw [e5]; exact (((((Fm.rf τB).up (by omega)).up (by omega)).up (by omega)).up (by omega)).up (by omega)
    have f15 : Fm (fun t i j => t = 62 ∨ Cstm t i j ∨ t = 82 ∨ t = 83 ∨ t = 85) τ1 τ5 := (fzB.mono fun t i j q => q.imp id Or.inl).tr (g5.mono fun t i j q => by rcases q with q | q; exact Or.inr (Or.inr q); exact Or.inl q.1)
    have kc : ∀ t i j, (t = 62 ∨ Cstm t i j ∨ t = 82 ∨ t = 83 ∨ t = 85) → (t = 62 ∨ 82 ≤ t ∧ t ≤ 88) := fun t i j q => by unfold Cstm at q; omega
    obtain ⟨τb, v1, v2, v3⟩ := r4 τ5 ⟨hMW.keep hT f15 (fun t i j q => by have := kc t i j q; omega), eLy.keep f15 (fun t i j q => by have := kc t i j q; omega), fun c hc p hp => by rw [f15 _ _ _ fun q => by have := kc _ _ _ q; omega]; exact e74 c hc p hp, s1.keep g5 (fun t i j w z => by unfold Cstm at z; omega), trivial, (g5 _ _ _ (by omega)).trans (kAB 19 (by omega)), by rw [g5 _ _ _ (by omega), kAB 30 (by omega), l12], by rw [g5 _ _ _ (by omega), kAB 37 (by omega), l13]⟩ (by rw [e5]; exact up_eq ⟨rfl, rfl, rfl⟩) (by rw [e5, up_ne (by omega), up_ne (by omega), up_ne (by omega), up_ne (by omega)]; exact up_eq ⟨rfl, rfl, rfl⟩) (by
      show τ5 83 0 0 = σB 55 0 0 + tG T b
      rw [e5, up_ne (by omega), up_ne (by omega), up_ne (by omega), l55, ← hv0]; exact up_eq ⟨rfl, rfl, rfl⟩) (fun q => by
      show τ5 85 0 0 = σB 57 0 0
      rw [l570, (a5 q).2, e5, up_ne (by omega), up_ne (by omega)]; exact Eq.trans (up_eq ⟨rfl, rfl, rfl⟩) hn0) (fun q w => by
      show τ5 85 0 1 = σB 57 0 1
      rw [(b6 ⟨q, w⟩).2, e5, up_ne (by omega)]; refine Eq.trans (up_eq ⟨rfl, rfl, rfl⟩) ?_; rw [hn1, if_pos ⟨q, w⟩])
    refine ⟨τb, fun {P} hG => ?_, v2, ((m2.mono fun t i j q => by unfold Cly at q; unfold Cmr; omega).tr (f15.mono fun t i j q => by have := kc t i j q; unfold Cmr; omega)).tr v3⟩
    have h63 : ∀ τ', Fm (fun t i j => t = 62 ∨ Cstm t i j) τ1 τ' → τ' 63 0 b = tG T b ∧ τ' 64 0 b = tV T b ∧ τ' 73 0 b = σ 4 b 6 := fun τ' hf => ⟨(hf _ _ _ (by unfold Cstm; omega)).trans (hMW.1 b hb).2.1, (hf _ _ _ (by unfold Cstm; omega)).trans (hMW.1 b hb).2.2.1, (hf _ _ _ (by unfold Cstm; omega)).trans (e73 b hb)⟩
    obtain ⟨hz1, -, -⟩ := h63 τz (fz.mono fun t i j q => Or.inl q)
    obtain ⟨hA1, hA2, hA3⟩ := h63 τA ((fz.mono fun t i j q => Or.inl q).tr (p2.mono fun t i j q => Or.inr q))
    have h86 : G (d' + 6) P 81 86 [vr 62 0, vi b, vu, vi 0, vi v0, vu] [vi n1] τB := by
      refine b_81x_86 ⟨_, τ5, by have := hfr; rw [hn0] at this; exact this, irI (by omega) (by omega), τb, ?_, hG⟩
      rw [show (40 : Int) * sB ((b, 0, 0, 0) : SL) + ((sP ((b, 0, 0, 0) : SL) : Nat) : Int) = 40 * b from Int.add_zero _] at v1
      exact v1
    have h70 : ∀ s0, s0 = v0 → G (d' + 6) P 81 70 [vr 62 0, vi b, vu, vi 0, vu, vu] [vi s0] τA := fun s0 hs => by
      rw [hs]
      refine b_81x_70 ⟨by omega, fun q => ?_, fun q => ⟨by omega, fun w => ?_, fun w => ?_⟩⟩
      · have hc : ¬ (tV T b = 1 ∧ σ 4 b 6 = 0) := fun z => q (hA2.trans z.1)
        rw [show n1 = 0 by rw [hn1, if_neg hc], s4 hc] at h86
        exact b_81x_85 h86
      · have hc : ¬ (tV T b = 1 ∧ σ 4 b 6 = 0) := fun z => w (hA3.trans z.2)
        rw [show n1 = 0 by rw [hn1, if_neg hc], s4 hc] at h86
        exact b_81x_85 h86
      · have hc : tV T b = 1 ∧ σ 4 b 6 = 0 := ⟨hA2.symm.trans q, hA3.symm.trans w⟩
        rw [show n1 = oA by rw [hn1, if_pos hc]] at h86
        exact ⟨_, τB, s3 hc, h86⟩
    refine b_81x_0 ⟨w, τ1, m1, fun _ => fun σ3 e3 σ4 e4 σ5 e5 σ6 e6 σ7 e7 σ8 e8 σ9 e9 σ10 e10 σ11 e11 σ12 e12 σ13 e13 σ14 e14 σ15 e15 σ16 e16 => ⟨by omega, ?_⟩, fun q => absurd q (by omega)⟩
    obtain rfl : τz = σ16 := by rw [ez, e16, e15, e14, e13, e12, e11, e10, e9, e8, e7, e6, e5, e4, e3]; rfl
    refine ⟨fun q => b_81x_57 ⟨by omega, fun _ => ?_, fun q' => absurd q' q⟩, fun q => ?_⟩
    · have hq : tG T b ≠ 1 := fun z => q (hz1.trans z)
      obtain rfl := a7 hq
      obtain rfl := p4 hq
      refine h70 n ?_
      have : tG T b = 0 := by have := (hT b hb).2.1; omega
      rw [hv0, k55, this, Int.add_zero]
    · have hq : tG T b = 1 := hz1.symm.trans q
      obtain ⟨τo, y1, y2, y3⟩ := p3 hq
      refine ⟨0, τo, y1, b_81x_57 ⟨by omega, fun q' => ?_, fun _ => ⟨1, τA, y2, h70 1 ?_⟩⟩⟩
      · exact absurd ((y3 _ _ _ (by unfold Cstm; omega)).trans (hz1.trans hq)) q'
      · obtain ⟨σ1, σ2', σ3', y1', y2', y3', y4'⟩ := a6 hq
        rw [hv0, y4', us_in ⟨by omega, by omega⟩, up_eq ⟨rfl, rfl, rfl⟩, hq]; rfl
end BEGIN2
