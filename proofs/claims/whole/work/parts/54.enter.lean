def psh (σ : SS) (h f p : Int) : SS := up (up (up (up σ 52 0 h f) 50 0 h p) 51 0 h 0) 1 0 10 (h + 1)
def pshM (τ : SS) (h f a : Int) : SS := up (up (up (up τ 78 0 h f) 79 0 h a) 80 0 h 0) 62 0 19 (h + 1)
theorem StI.mono {σ : SS} {o : Nat} {B B' : Int} (h : StI σ o B) (hB : B ≤ B') : StI σ o B' := by
  obtain ⟨h1, h2, h3, h4, h5, h6, h7, h8, h9, h10, h11⟩ := h
  exact ⟨h1, h2, h3, h4, h5, h6, h7, h8, h9, ⟨h10.1, by omega⟩, h11⟩
theorem Chn.set {T : TP} {b0 : Int} {x x' : SL} {L : List SL} (h : Chn T b0 (x :: L)) (hx : slotOK T x') (e1 : sB x' = sB x) (e2 : sF x' = sF x) (e3 : sP x' = sP x) : Chn T b0 (x' :: L) := by
  cases L with
  | nil => exact ⟨hx, by rw [e1]; exact h.2.1, by rw [e2]; exact h.2.2.1, by rw [e3]; exact h.2.2.2⟩
  | cons y L => exact ⟨hx, by have := h.2.1; unfold link at this ⊢; rw [e1, e2, e3]; exact this, h.2.2⟩
section ENTER
variable {T : TP} {β : SS} {g : Nat} {b0 : Int} {d d' : Nat}
theorem c_push {σ : SS} {h : Nat} {f p : Int} (hh : σ 1 0 10 = (h : Int)) (h5 : h < 520) : Rn (d + 2) 118 [vr 1 0, vi f, vi p] σ vu (psh σ h f p) := by
  refine G_rn rfl (b_118_0 fun σ1 e1 σ2 e2 σ3 e3 => ?_)
  rw [hh, us_in ⟨by omega, by omega⟩] at e1
  have a1 : σ1 1 0 10 = (h : Int) := by rw [e1, up_ne (by omega)]; exact hh
  rw [a1, us_in ⟨by omega, by omega⟩] at e2
  have a2 : σ2 1 0 10 = (h : Int) := by rw [e2, up_ne (by omega)]; exact a1
  rw [a2, us_in ⟨by omega, by omega⟩] at e3
  have a3 : σ3 1 0 10 = (h : Int) := by rw [e3, up_ne (by omega)]; exact a2
  rw [a3]
  exact ⟨irI (by omega) (by omega), fun σ4 e4 => ⟨rfl, by rw [e4, e3, e2, e1]; rfl⟩⟩
theorem m_push {τ : SS} {h : Nat} {f a : Int} (hh : τ 62 0 19 = (h : Int)) (h5 : h < 520) : Rn (d + 1) 76 [vr 62 0, vi f, vi a] τ vu (pshM τ h f a) := by
  refine G_rn rfl (b_76_0 ⟨by omega, fun τ1 e1 => ?_⟩)
  rw [hh] at e1
  have a1 : τ1 62 0 19 = (h : Int) := by rw [e1, up_ne (by omega)]; exact hh
  rw [a1]
  refine ⟨by omega, fun τ2 e2 => ?_⟩
  have a2 : τ2 62 0 19 = (h : Int) := by rw [e2, up_ne (by omega)]; exact a1
  rw [a2]
  refine ⟨by omega, fun τ3 e3 => ?_⟩
  have a3 : τ3 62 0 19 = (h : Int) := by rw [e3, up_ne (by omega)]; exact a2
  rw [a3]
  exact ⟨irI (by omega) (by omega), fun τ4 e4 => ⟨rfl, by rw [e4, e3, e2, e1]; rfl⟩⟩
theorem push_ok (hLy : LyC T β) {σ : SS} {x : SL} {L : List SL} (hc : Chn T b0 (x :: L)) (hs : sS x = 0) (hF : Fm Crun β σ) (hh : σ 1 0 10 = (L.length : Int)) (hS : SKA T β g σ L) (hSt : StI σ (osm β g L) (2 + 40 * σ 1 0 12)) (hkn : σ 1 0 14 = 1) (hst : 0 ≤ σ 1 0 12 ∧ σ 1 0 12 ≤ 3001) (hcl : 0 ≤ σ 1 0 13 ∧ σ 1 0 13 + c1K L ≤ σ 1 0 12)
    (hb : σ 54 0 (sF x) = sB x) (hv : vkA (tG T (sB x)) (σ 55 0 (sF x)) (σ 32 0 6)) (hp : tG T (sB x) = 1 → 0 ≤ σ 57 0 (42 * (sF x : Int)) ∧ σ 57 0 (42 * (sF x : Int)) < osm β g L) (hr : tV T (sB x) = 1 → β 4 (sB x) 6 = 0 → 0 ≤ σ 57 0 (42 * (sF x : Int) + 1) ∧ σ 57 0 (42 * (sF x : Int) + 1) < osm β g L) :
    ∃ σ', Rn (d + 2) 118 [vr 1 0, vi (sF x : Int), vi (sP x : Int)] σ vu σ' ∧ RI T β g b0 σ' (x :: L) ∧ σ' 1 0 12 = σ 1 0 12 ∧
      ∀ τ, MM T β σ τ L L.length → τ 62 0 24 = (sF x : Int) + 1 → τ 82 0 (sF x) = sB x → τ 83 0 (sF x) = σ 55 0 (sF x) + tG T (sB x) → (tG T (sB x) = 1 → τ 85 0 (44 * (sF x : Int)) = σ 57 0 (42 * (sF x : Int))) → (tV T (sB x) = 1 → β 4 (sB x) 6 = 0 → τ 85 0 (44 * (sF x : Int) + 1) = σ 57 0 (42 * (sF x : Int) + 1)) →
        ∃ τ', Rn (d' + 1) 76 [vr 62 0, vi (sF x : Int), vi (40 * sB x + (sP x : Int))] τ vu τ' ∧ RR T β b0 σ' τ' (x :: L) ∧ Fm Cmr τ τ' := by
  obtain ⟨hT, hW, -⟩ := id hLy
  have hx := hc.slot
  have hlen := hc.len hT hW
  have hn := (hT _ hx.1).1
  have hx12 := hx.2.1
  have hxp := hx.2.2.1
  have hl5 : L.length < 520 := by omega
  let σ' := psh σ L.length (sF x) (sP x)
  have f1 : Fm (fun t _ j => ((t = 50 ∨ t = 51 ∨ t = 52) ∧ j = (L.length : Int)) ∨ (t = 1 ∧ j = 10)) σ σ' := by
    refine ((((Fm.rf σ).up ?_).up ?_).up ?_).up ?_ <;> simp
  have hag : AgC β σ σ' L := by
    refine ⟨by rw [f1 _ _ _ (by omega)]; exact Int.le_refl _, fun i hi => ⟨f1 _ _ _ (by omega), f1 _ _ _ (by omega), f1 _ _ _ (by omega), f1 _ _ _ (by omega)⟩, fun y hy => ⟨f1 _ _ _ (by omega), f1 _ _ _ (by omega), f1 _ _ _ (by omega), fun r _ _ _ => f1 _ _ _ (by omega)⟩⟩
  have hosm : osm β g (x :: L) = osm β g L := by simp only [osm]; rw [if_neg (by omega)]; omega
  have c52 : σ' 52 0 L.length = sF x := by simp only [σ', psh]; rw [up_ne (by omega), up_ne (by omega), up_ne (by omega), up_eq ⟨rfl, rfl, rfl⟩]
  have c50 : σ' 50 0 L.length = sP x := by simp only [σ', psh]; rw [up_ne (by omega), up_ne (by omega), up_eq ⟨rfl, rfl, rfl⟩]
  have c51 : σ' 51 0 L.length = 0 := by simp only [σ', psh]; rw [up_ne (by omega), up_eq ⟨rfl, rfl, rfl⟩]
  have c10 : σ' 1 0 10 = (L.length : Int) + 1 := by simp only [σ', psh]; rw [up_eq ⟨rfl, rfl, rfl⟩]
  have e12 : σ' 1 0 12 = σ 1 0 12 := f1 _ _ _ (by omega)
  have e13 : σ' 1 0 13 = σ 1 0 13 := f1 _ _ _ (by omega)
  have e6 : σ' 32 0 6 = σ 32 0 6 := f1 _ _ _ (by omega)
  have hc1 : c1K (x :: L) = c1K L := by simp only [c1K]; rw [if_neg (by omega)]; omega
  have hSt' : StI σ' (osm β g L) (2 + 40 * σ 1 0 12) := hSt.keep f1 (fun t i j q => by omega)
  refine ⟨σ', c_push hh hl5, ⟨hF.tr (f1.mono fun t i j q => by unfold Crun; omega), hc, by rw [c10]; simp, ⟨⟨c52, c50, by rw [c51, hs]; rfl, by rw [f1 _ _ _ (by omega)]; exact hb, by rw [f1 _ _ _ (by omega), e6]; exact hv, fun q => by omega, fun q => by omega, fun q => by rw [f1 _ _ _ (by omega)]; exact hp q, fun q w => by rw [f1 _ _ _ (by omega)]; exact hr q w, fun q => by omega⟩, hS.cong (fun b hb => (hLy.ho b hb).2) hc.tail hag⟩, by rw [hosm, e12]; exact hSt', by rw [f1 _ _ _ (by omega)]; exact hkn, by rw [e12]; exact hst, by rw [e12, e13, hc1]; exact hcl, fun q => by have : 1 ≤ sS x := q; omega⟩, e12, fun τ hm h24 h82 h83 h85 h851 => ?_⟩
  obtain ⟨m1, m2, m3, m4, m5, m6, m7, m8⟩ := id hm
  let τ' := pshM τ L.length (sF x) (40 * sB x + sP x)
  have f2 : Fm (fun t _ j => ((t = 78 ∨ t = 79 ∨ t = 80) ∧ j = (L.length : Int)) ∨ (t = 62 ∧ j = 19)) τ τ' := by
    refine ((((Fm.rf τ).up ?_).up ?_).up ?_).up ?_ <;> simp
  have hagm : AgM β τ τ' L := ⟨fun i hi => ⟨f2 _ _ _ (by omega), f2 _ _ _ (by omega), f2 _ _ _ (by omega), f2 _ _ _ (by omega)⟩, fun y hy => ⟨f2 _ _ _ (by omega), f2 _ _ _ (by omega), f2 _ _ _ (by omega), fun r _ _ _ => f2 _ _ _ (by omega)⟩⟩
  have d78 : τ' 78 0 L.length = sF x := by simp only [τ', pshM]; rw [up_ne (by omega), up_ne (by omega), up_ne (by omega), up_eq ⟨rfl, rfl, rfl⟩]
  have d79 : τ' 79 0 L.length = 40 * sB x + sP x := by simp only [τ', pshM]; rw [up_ne (by omega), up_ne (by omega), up_eq ⟨rfl, rfl, rfl⟩]
  have d80 : τ' 80 0 L.length = 0 := by simp only [τ', pshM]; rw [up_ne (by omega), up_eq ⟨rfl, rfl, rfl⟩]
  have d19 : τ' 62 0 19 = (L.length : Int) + 1 := by simp only [τ', pshM]; rw [up_eq ⟨rfl, rfl, rfl⟩]
  have hR' : SR σ' τ' := (m4.keepC f1 (fun t i j w z => by unfold Csto at z; omega)).keep f2 (fun t i j w z => by unfold Cstm at z; omega)
  refine ⟨τ', m_push m6 hl5, ⟨⟨m1.keep hT f2 (fun t i j q => by omega), m2.keep f2 (fun t i j q => by omega), fun b hb p hp => by rw [f2 _ _ _ (by omega)]; exact m3 b hb p hp, hR', ⟨⟨d78, d79, fun _ => d80, fun q => by omega, fun q => by omega, fun q => by omega, by rw [f2 _ _ _ (by omega)]; exact h82, by rw [f2 _ _ _ (by omega), f1 _ _ _ (by omega)]; exact h83, fun q => by omega, fun q => by rw [f2 _ _ _ (by omega), f1 _ _ _ (by omega)]; exact h85 q, fun q w => by rw [f2 _ _ _ (by omega), f1 _ _ _ (by omega)]; exact h851 q w, fun q => by omega⟩, m5.cong (fun b hb => (hLy.ho b hb).2) hc.tail hag hagm⟩, by rw [d19]; simp, by rw [f2 _ _ _ (by omega), e12]; exact m7, by rw [f2 _ _ _ (by omega), e13]; exact m8⟩, fun _ => ?_, fun q => by have : 1 ≤ sS x := q; omega⟩, f2.mono fun t i j w => by unfold Cmr; omega⟩
  rw [f2 _ _ _ (by omega), h24]
  show _ = (sF x : Int) + 1 + (if sS x = 2 ∧ sK T x = 9 then 1 else 0)
  rw [if_neg (by omega)]; omega
/-- the state behind the homes' opening -/
def entS (β σ : SS) (x : SL) (h : Nat) : SS := opH β (sB x) (sF x) (sP x) (β 4 (sB x) 8).toNat 2 (up (up σ 51 0 h 1) 1 0 12 (σ 1 0 12 + 1))
theorem entS_ok (hLy : LyC T β) (hg : g ≤ 2) {σ : SS} {x : SL} {L : List SL} (hR : RI T β g b0 σ (x :: L)) (hs : sS x = 0) (h3 : σ 1 0 12 ≤ 3000) :
    Fm (fun t i j => Cop (sF x) t i j ∨ (t = 51 ∧ j = (L.length : Int)) ∨ (t = 1 ∧ j = 12)) σ (entS β σ x L.length) ∧ StI (entS β σ x L.length) (osm β g L + hcB β (sB x) (sP x)) (2 + 40 * (σ 1 0 12 + 1)) ∧ entS β σ x L.length 1 0 12 = σ 1 0 12 + 1 ∧ entS β σ x L.length 51 0 L.length = 1 ∧
    (∀ r : Int, 2 ≤ r → r < 2 + β 4 (sB x) 8 → β 49 (sB x) r = sP x → (osm β g L : Int) ≤ entS β σ x L.length 57 0 (42 * (sF x : Int) + r) ∧ entS β σ x L.length 57 0 (42 * (sF x : Int) + r) < (osm β g L : Int) + hcB β (sB x) (sP x)) ∧ AgC β σ (entS β σ x L.length) L ∧
    (∀ {P : AV → SS → Prop}, G (d + 3) P 120 16 [vr 1 0, vr 4 (sB x), vi (sF x : Int), vi (sP x : Int), vi (2 + β 4 (sB x) 8)] [] (entS β σ x L.length) → G (d + 3) P 120 16 [vr 1 0, vr 4 (sB x), vi (sF x : Int), vi (sP x : Int), vi 2] [] (up (up σ 51 0 L.length 1) 1 0 12 (σ 1 0 12 + 1))) ∧
    (∀ τ, RR T β b0 σ τ (x :: L) → ∃ τ2, SR (entS β σ x L.length) τ2 ∧ Fm (fun t i j => Com (sF x) t i j ∨ (t = 62 ∧ j = 30)) τ τ2 ∧ τ2 62 0 30 = σ 1 0 12 + 1 ∧ (∀ r : Int, 2 ≤ r → r < 2 + β 4 (sB x) 8 → β 49 (sB x) r = sP x → τ2 85 0 (44 * (sF x : Int) + r) = entS β σ x L.length 57 0 (42 * (sF x : Int) + r)) ∧ AgM β τ τ2 L ∧ Rn (d' + 2) 77 [vr 62 0, vi (sF x : Int), vi (40 * sB x + (sP x : Int)), vi 1] (up τ 62 0 30 (σ 1 0 12 + 1)) vu τ2) := by
  obtain ⟨hT, hW, -⟩ := id hLy
  obtain ⟨hF, hc, hh, hS, hSt, hkn, hst, hcl, hres⟩ := hR
  have hx := hc.slot
  have h8 := hLy.ho _ hx.1
  have hosm : osm β g (x :: L) = osm β g L := by simp only [osm]; rw [if_neg (by omega)]; omega
  rw [hosm] at hSt
  have h522 : osm β g L + hcB β (sB x) (sP x) ≤ 546 := by
    have h1 := osm_hc (g := g) hT hW (fun b hb => (hLy.ho b hb).2) hc
    have h2 : hlB β (sB x) (sP x) ≤ 40 := by
      have := cnt_le (fun i => decide (β 49 (sB x) (2 + (i : Int)) ≤ (sP x : Nat))) (β 4 (sB x) 8).toNat
      unfold hlB; omega
    have := hx.2.1
    omega
  have hc40 : hcB β (sB x) (sP x) ≤ 40 := by
    have := cnt_le (fun i => decide (β 49 (sB x) (2 + (i : Int)) = (sP x : Nat))) (β 4 (sB x) 8).toNat
    unfold hcB; omega
  let σa := up (up σ 51 0 L.length 1) 1 0 12 (σ 1 0 12 + 1)
  have fa : Fm (fun t _ j => (t = 51 ∧ j = (L.length : Int)) ∨ (t = 1 ∧ j = 12)) σ σa := ((Fm.rf σ).up (Or.inl ⟨rfl, rfl⟩)).up (Or.inr ⟨rfl, rfl⟩)
  have hSa : StI σa (osm β g L) (2 + 40 * σ 1 0 12) := hSt.keep fa (fun t i j q => by omega)
  have hFa : Fm Crun β σa := hF.tr (fa.mono fun t i j q => by unfold Crun; omega)
  have hcc : cH β (sB x) (sP x) (β 4 (sB x) 8).toNat 2 = hcB β (sB x) (sP x) := hc_cH.symm
  have hf12 := hx.2.1
  obtain ⟨y1, y2, y3, y4⟩ := opH_ok (β := β) (b := sB x) (p := sP x) hf12 (β 4 (sB x) 8).toNat 2 σa _ _ hSa (by rw [hcc]; exact h522) (by rw [hcc]; omega) (Int.le_refl _) (by omega)
  rw [hcc] at y1 y3
  have yr : (2 : Int) + ((β 4 (sB x) 8).toNat : Int) = 2 + β 4 (sB x) 8 := by omega
  rw [yr] at y3 y4
  have ff : Fm (fun t i j => Cop (sF x) t i j ∨ (t = 51 ∧ j = (L.length : Int)) ∨ (t = 1 ∧ j = 12)) σ (entS β σ x L.length) := (fa.mono fun t i j q => Or.inr q).tr (y2.mono fun t i j q => Or.inl q)
  have own : ∀ (y : SL), y ∈ L → ∀ r : Int, 0 ≤ r → r < 42 → (r < 2 ∨ β 49 (sB y) r = sP y) → sF y = sF x → 2 ≤ r → β 49 (sB x) r ≠ sP x := fun y hy r r0 r1 r2 hfe r3 => by
    rcases hc.lex hW y hy with w | ⟨w1, w2, w3⟩
    · omega
    · rw [w3] at r2; omega
  refine ⟨ff, y1.mono (by omega), ?_, ?_, fun r a c w => y3 r a c w, ?_, fun {P} hG => c_openLoop hf12 h8 (β 4 (sB x) 8).toNat 2 σa _ _ hFa hSa (by rw [hcc]; exact h522) (by rw [hcc]; omega) (Int.le_refl _) (by omega) hG, fun τ hRR => ?_⟩
  · show opH β (sB x) (sF x) (sP x) (β 4 (sB x) 8).toNat 2 σa 1 0 12 = _
    rw [y2 _ _ _ (by unfold Cop; omega)]; exact up_eq ⟨rfl, rfl, rfl⟩
  · show opH β (sB x) (sF x) (sP x) (β 4 (sB x) 8).toNat 2 σa 51 0 _ = _
    rw [y2 _ _ _ (by unfold Cop; omega)]; show up (up σ 51 0 L.length 1) 1 0 12 _ 51 0 _ = 1; rw [up_ne (by omega), up_eq ⟨rfl, rfl, rfl⟩]
  · refine ⟨by rw [ff _ _ _ (by unfold Cop; omega)]; exact Int.le_refl _, fun i hi => ⟨ff _ _ _ (by unfold Cop; omega), ff _ _ _ (by unfold Cop; omega), ff _ _ _ (by unfold Cop; omega), ff _ _ _ (by unfold Cop; omega)⟩, fun y hy => ⟨ff _ _ _ (by unfold Cop; omega), ff _ _ _ (by unfold Cop; omega), ff _ _ _ (by unfold Cop; omega), fun r r0 r1 r2 => ?_⟩⟩
    by_cases hfe : sF y = sF x
    · rw [hfe]
      by_cases r3 : 2 ≤ r
      · have := y4 r (Or.inr (Or.inr (own y hy r r0 r1 r2 hfe r3)))
        rw [show entS β σ x L.length = opH β (sB x) (sF x) (sP x) (β 4 (sB x) 8).toNat 2 σa from rfl, this]
        exact fa _ _ _ (by omega)
      · exact ff _ _ _ (by unfold Cop; omega)
    · exact ff _ _ _ (by unfold Cop; omega)
  · obtain ⟨⟨m1, m2, m3, m4, m5, m6, m7, m8⟩, m9, m10⟩ := hRR
    let τ1 := up τ 62 0 30 (σ 1 0 12 + 1)
    have g1 : Fm (fun t _ j => t = 62 ∧ j = 30) τ τ1 := (Fm.rf τ).up ⟨rfl, rfl⟩
    have hR1 : SR σa τ1 := (m4.keepC fa (fun t i j w z => by unfold Csto at z; omega)).keep g1 (fun t i j w z => by unfold Cstm at z; omega)
    obtain ⟨τ2, k1, k2, k3, k4, k5⟩ := m_openLoop (d := d') (p := sP x) hx.1 hf12 h8 (β 4 (sB x) 8).toNat 2 σa τ1 _ _ (m2.keep g1 (fun t i j q => by omega)) hR1 hSa (by rw [hcc]; exact h522) (by rw [hcc]; omega) (Int.le_refl _) (by omega)
    rw [yr] at k3 k4
    have gg : Fm (fun t i j => Com (sF x) t i j ∨ (t = 62 ∧ j = 30)) τ τ2 := (g1.mono fun t i j q => Or.inr q).tr (k2.mono fun t i j q => Or.inl q)
    have h82 : up τ 62 0 30 (σ 1 0 12 + 1) 82 0 (sF x) = sB x := (g1 _ _ _ (by omega)).trans m5.1.2.2.2.2.2.2.1
    refine ⟨τ2, k1, gg, by rw [k2 _ _ _ (by unfold Com Cstm; omega)]; exact up_eq ⟨rfl, rfl, rfl⟩, fun r a c w => k3 r a c w, ⟨fun i hi => ⟨gg _ _ _ (by unfold Com Cstm; omega), gg _ _ _ (by unfold Com Cstm; omega), gg _ _ _ (by unfold Com Cstm; omega), gg _ _ _ (by unfold Com Cstm; omega)⟩, fun y hy => ⟨gg _ _ _ (by unfold Com Cstm; omega), gg _ _ _ (by unfold Com Cstm; omega), gg _ _ _ (by unfold Com Cstm; omega), fun r r0 r1 r2 => ?_⟩⟩, G_rn rfl (b_77_0 ⟨by omega, by rw [h82]; exact k5 _ ⟨rfl, rfl⟩⟩)⟩
    by_cases hfe : sF y = sF x
    · rw [hfe]
      by_cases r3 : 2 ≤ r
      · rw [k4 r (Or.inr (Or.inr (own y hy r r0 r1 r2 hfe r3)))]
        exact g1 _ _ _ (by omega)
      · exact gg _ _ _ (by unfold Com Cstm; omega)
    · exact gg _ _ _ (by unfold Com Cstm; omega)
end ENTER
