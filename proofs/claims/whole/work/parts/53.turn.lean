/-! ===== turns: what holds while a run is known ===== -/
/-- the layout that a run goes by -/
def LyC (T : TP) (β : SS) : Prop := TOKA T ∧ welA T ∧ CW T β ∧ CLay T β
theorem LyC.ho {T : TP} {β : SS} (h : LyC T β) : ∀ b, isB b → 0 ≤ β 4 b 8 ∧ β 4 b 8 ≤ 40 := fun b hb => by
  have := NuOK_facts (h.2.2.2.2.2 b hb).1
  have := (h.1 b hb).1
  omega
/-- what a run of the model changes -/
def Cmr : Nat → Int → Int → Prop := fun t _ _ => t = 62 ∨ (67 ≤ t ∧ t ≤ 88)
def topS : List SL → Prop
  | [] => True
  | x :: _ => 1 ≤ sS x
/-- slots whose first term is under way -/
def c1K : List SL → Nat
  | [] => 0
  | x :: L => c1K L + (if sS x = 1 then 1 else 0)
/-- turns that slots are due at the most -/
def poK : List SL → Nat
  | [] => 0
  | x :: L => poK L + (if sS x = 1 then 2 else if sS x = 2 then 1 else 0)
def RI (T : TP) (β : SS) (g : Nat) (b0 : Int) (σ : SS) (L : List SL) : Prop := Fm Crun β σ ∧ Chn T b0 L ∧ σ 1 0 10 = L.length ∧ SKA T β g σ L ∧ StI σ (osm β g L) (2 + 40 * σ 1 0 12) ∧ σ 1 0 14 = 1 ∧ (0 ≤ σ 1 0 12 ∧ σ 1 0 12 ≤ 3001) ∧ (0 ≤ σ 1 0 13 ∧ σ 1 0 13 + c1K L ≤ σ 1 0 12) ∧ (topS L → vkA (exK T b0 L) (σ 1 0 11) (σ 32 0 6))
/-- the model beside it -/
def MM (T : TP) (β σ τ : SS) (L : List SL) (h : Int) : Prop := MW T τ ∧ LyE β τ ∧ (∀ b, isB b → ∀ p : Nat, p < tN T b → τ 74 0 (40 * b + p) = β 47 b p) ∧ SR σ τ ∧ MKA T β σ τ L ∧ τ 62 0 19 = h ∧ τ 62 0 30 = σ 1 0 12 ∧ τ 62 0 37 = σ 1 0 13
def RR (T : TP) (β : SS) (b0 : Int) (σ τ : SS) (L : List SL) : Prop := MM T β σ τ L L.length ∧ (L ≠ [] → τ 62 0 24 = clK T L) ∧ (topS L → τ 62 0 29 = σ 1 0 11 + exK T b0 L)
theorem osm_tail (β : SS) (g : Nat) (x : SL) (L : List SL) : osm β g L ≤ osm β g (x :: L) := by simp only [osm]; omega
section TURN
variable {T : TP} {β : SS} {g : Nat} {b0 : Int} {d d' : Nat}
theorem osm_hc (hT : TOKA T) (hW : welA T) (ho : ∀ b, isB b → β 4 b 8 ≤ 40) {x : SL} {L : List SL} (hc : Chn T b0 (x :: L)) : osm β g L + hcB β (sB x) (sP x) ≤ g + 40 * sF x + hlB β (sB x) (sP x) := by
  have h1 := hc_hl β (sB x) (sP x)
  cases L with
  | nil => simp only [osm]; omega
  | cons z L =>
    have ih := osm_le (g := g) hT hW ho hc.tail
    have hz := hc.tail.slot
    have hzl : hlB β (sB z) (sP z) ≤ 40 := by
      have := cnt_le (fun i => decide (β 49 (sB z) (2 + (i : Int)) ≤ (sP z : Nat))) (β 4 (sB z) 8).toNat
      have := ho _ hz.1
      unfold hlB; omega
    rcases hc.lex hW z List.mem_cons_self with w | ⟨w1, w2, w3⟩
    · omega
    · have := hl_add β (sB x) w2
      rw [w3] at ih
      omega
/-- what slots hold, one by one -/
theorem SKA.mem {σ : SS} : ∀ {L : List SL} {y : SL}, SKA T β g σ L → y ∈ L → ∃ M, slF T β g σ y M ∧ osm β g (y :: M) ≤ osm β g L
  | [], _, _, hy => by cases hy
  | x :: L, y, h, hy => by
    rcases List.mem_cons.mp hy with e | e
    · subst e; exact ⟨L, h.1, Nat.le_refl _⟩
    · obtain ⟨M, m1, m2⟩ := SKA.mem h.2 e
      exact ⟨M, m1, Nat.le_trans m2 (osm_tail _ _ _ _)⟩
theorem MKA.mem {σ τ : SS} : ∀ {L : List SL} {y : SL}, MKA T β σ τ L → y ∈ L → ∃ M, mlF T β σ τ y M
  | [], _, _, hy => by cases hy
  | x :: L, y, h, hy => by
    rcases List.mem_cons.mp hy with e | e
    · subst e; exact ⟨L, h.1⟩
    · exact MKA.mem h.2 e
/-- a region that the top part touches is open, and both sides have it -/
theorem reg_ok (hLy : LyC T β) {σ : SS} {x : SL} {L : List SL} (hc : Chn T b0 (x :: L)) (hs : 1 ≤ sS x) (hk : SKA T β g σ (x :: L)) {q : Nat} (hq : q < tN T (sB x)) (h0 : 0 ≤ β 47 (sB x) q) (ht : toA T (sB x) (nuF β (sB x)) (sP x) (β 47 (sB x) q)) :
    (0 ≤ β 47 (sB x) q ∧ β 47 (sB x) q < 42) ∧ (0 ≤ σ 57 0 (42 * (sF x : Int) + β 47 (sB x) q) ∧ σ 57 0 (42 * (sF x : Int) + β 47 (sB x) q) < osm β g (x :: L)) ∧ ∀ τ, MKA T β σ τ (x :: L) → τ 85 0 (44 * (sF x : Int) + β 47 (sB x) q) = σ 57 0 (42 * (sF x : Int) + β 47 (sB x) q) := by
  obtain ⟨hT, hW, hCW, hP, hE, hLb⟩ := hLy
  have hx := hc.slot
  obtain ⟨hN, hNb, hH⟩ := hLb _ hx.1
  have hfa := NuOK_facts hN
  have hn := (hT _ hx.1).1
  have hnu : ∀ k : Nat, nuF β (sB x) k = β 47 (sB x) k := fun k => rfl
  obtain ⟨z1, z2, z3, z4, z5, z6⟩ : 0 ≤ nuF β (sB x) q ∧ nuF β (sB x) q < 2 + β 4 (sB x) 8 ∧ bxA T (sB x) q ∧ (nuF β (sB x) q = 0 ↔ reA T (sB x) (psA β) q 40) ∧ (nuF β (sB x) q = 1 → reA T (sB x) (psA β) q 41 ∧ ¬ reA T (sB x) (psA β) q 40) ∧ (reA T (sB x) (psA β) q 41 → nuF β (sB x) q = 0 ∨ nuF β (sB x) q = 1) := by
    rcases hfa.2.2.1 q hq with w | w
    · have := w.1; rw [hnu] at this; omega
    · exact w
  rw [hnu] at z1 z2 z4 z5 z6
  have rng : 0 ≤ β 47 (sB x) q ∧ β 47 (sB x) q < 42 := by omega
  refine ⟨rng, ?_⟩
  have ot := osm_tail β g x L
  rcases (show β 47 (sB x) q = 0 ∨ β 47 (sB x) q = 1 ∨ 2 ≤ β 47 (sB x) q by omega) with e | e | e
  · have hG := nu_P hT hW hx.1 hN hq (by rw [hnu]; exact e)
    obtain ⟨s1, s2, s3, s4, s5, s6, s7, s8, s9, s10⟩ := hk.1
    rw [e, Int.add_zero, Int.add_zero]
    refine ⟨⟨(s8 hG).1, by have := (s8 hG).2; omega⟩, fun τ hm => hm.1.2.2.2.2.2.2.2.2.2.1 hG⟩
  · have hV := nu_R hT hW hx.1 hN hq (by rw [hnu]; exact e)
    have hps : β 4 (sB x) 6 = 0 := by
      rcases hP.1.1 _ hx.1 with w | w
      · exact w
      · exfalso
        have h1 := hP.1.2.1 _ hx.1 w
        exact (z5 e).2 ((z5 e).1.tr h1.sy)
    obtain ⟨s1, s2, s3, s4, s5, s6, s7, s8, s9, s10⟩ := hk.1
    rw [e]
    refine ⟨⟨(s9 hV hps).1, by have := (s9 hV hps).2; omega⟩, fun τ hm => hm.1.2.2.2.2.2.2.2.2.2.2.1 hV hps⟩
  · obtain ⟨h, h1, h2⟩ := hH _ e z2
    obtain ⟨y1, y2⟩ := h2.2.2.1 (sP x) hx.2.2.1 ht
    obtain ⟨y, m1, m2, m3, m4, m5⟩ := hc.anc hW h h2.1 h2.2.1 y1 y2
    have hys : 1 ≤ sS y := by
      rcases Nat.eq_or_lt_of_le y1 with w | w
      · rcases List.mem_cons.mp m1 with u | u
        · rw [u]; exact hs
        · have := hc.lex hW y u; omega
      · exact (m5 w).1
    obtain ⟨M, k1, k2⟩ := SKA.mem hk m1
    obtain ⟨s1, s2, s3, s4, s5, s6, s7, s8, s9, s10⟩ := k1
    have hr := s10 hys (β 47 (sB x) q) e (by rw [m2]; exact z2) (by rw [m2, h1, m4])
    rw [m3] at hr
    refine ⟨⟨hr.1, by omega⟩, fun τ hm => ?_⟩
    obtain ⟨M', k⟩ := MKA.mem hm m1
    have := k.2.2.2.2.2.2.2.2.2.2.2 hys (β 47 (sB x) q) e (by rw [m2]; exact z2) (by rw [m2, h1, m4])
    rw [m3] at this
    exact this
/-- leave: the class's part -/
theorem c_leave (hLy : LyC T β) {σ : SS} {b : Int} {p o h : Nat} {B : Int} (hb : isB b) (hF : Fm Crun β σ) (hh : σ 1 0 10 = (h : Int) + 1) (hh5 : h ≤ 600) (hS : StI σ (o + hcB β b p) B) (ho : o + hcB β b p ≤ 546) :
    Rn (d + 3) 122 [vr 1 0, vr 4 b, vi (p : Int)] σ vu (up (clH β b p (β 4 b 8).toNat 2 σ) 1 0 10 h) ∧ StI (up (clH β b p (β 4 b 8).toNat 2 σ) 1 0 10 h) o B ∧ Fm (fun t _ j => (t = 32 ∧ (j = 3 ∨ j = 4 ∨ j = 5)) ∨ (t = 1 ∧ j = 10)) σ (up (clH β b p (β 4 b 8).toNat 2 σ) 1 0 10 h) := by
  have h8 := hLy.ho b hb
  rw [hc_cH] at hS ho
  obtain ⟨i1, i2⟩ := clH_ok (β := β) (b := b) (p := p) (β 4 b 8).toNat 2 σ o B hS ho
  have e8 : clH β b p (β 4 b 8).toNat 2 σ 4 b 8 = β 4 b 8 := (i2 _ _ _ (by omega)).trans (hF _ _ _ (by unfold Crun; omega))
  have e10 : clH β b p (β 4 b 8).toNat 2 σ 1 0 10 = (h : Int) + 1 := (i2 _ _ _ (by omega)).trans hh
  refine ⟨G_rn rfl (b_122_0 (c_closeLoop h8 (β 4 b 8).toNat 2 σ o B hF hS ho (Int.le_refl _) (by omega) ?_)), i1.keep (C := fun t _ j => t = 1) ((Fm.rf _).up rfl) (fun t i j w => by omega), (i2.mono fun t i j w => Or.inl w).up (Or.inr ⟨rfl, rfl⟩)⟩
  refine b_122_2 ⟨by rw [e8]; exact irI (by omega) (by omega), fun _ => ⟨by rw [e10]; exact irI (by omega) (by omega), fun σ1 e1 => ⟨rfl, ?_⟩⟩, fun q => absurd q (by rw [e8]; omega)⟩
  rw [e1, e10, show (h : Int) + 1 - 1 = h by omega]
/-- AgC by a frame that leaves the slots' cells alone -/
theorem AgC.of {σ σ' : SS} {L : List SL} {C : Nat → Int → Int → Prop} (hF : Fm C σ σ') (hc : ∀ t i j, C t i j → t = 1 ∨ (t = 32 ∧ j ≠ 6) ∨ 58 ≤ t) : AgC β σ σ' L := by
  have e : ∀ (t : Nat) (j : Int), 50 ≤ t → t ≤ 57 → σ' t 0 j = σ t 0 j := fun t j h1 h2 => hF _ _ _ fun q => by have := hc _ _ _ q; omega
  refine ⟨?_, fun i _ => ⟨e _ _ (by omega) (by omega), e _ _ (by omega) (by omega), e _ _ (by omega) (by omega), e _ _ (by omega) (by omega)⟩, fun y _ => ⟨e _ _ (by omega) (by omega), e _ _ (by omega) (by omega), e _ _ (by omega) (by omega), fun r _ _ _ => e _ _ (by omega) (by omega)⟩⟩
  rw [hF 32 0 6 fun q => by have := hc _ _ _ q; omega]
  exact Int.le_refl _
theorem AgM.of {τ τ' : SS} {L : List SL} {C : Nat → Int → Int → Prop} (hF : Fm C τ τ') (hc : ∀ t i j, C t i j → t < 78 ∨ 85 < t) : AgM β τ τ' L := by
  have e : ∀ (t : Nat) (j : Int), 78 ≤ t → t ≤ 85 → τ' t 0 j = τ t 0 j := fun t j h1 h2 => hF _ _ _ fun q => by have := hc _ _ _ q; omega
  exact ⟨fun i _ => ⟨e _ _ (by omega) (by omega), e _ _ (by omega) (by omega), e _ _ (by omega) (by omega), e _ _ (by omega) (by omega)⟩, fun y _ => ⟨e _ _ (by omega) (by omega), e _ _ (by omega) (by omega), e _ _ (by omega) (by omega), fun r _ _ _ => e _ _ (by omega) (by omega)⟩⟩
/-- MM where only store, counters and value change -/
theorem MM.move {σ σ' τ τ' : SS} {L : List SL} {h h' : Int} {C D : Nat → Int → Int → Prop} (hLy : LyC T β) (hc : Chn T b0 L) (hm : MM T β σ τ L h) (hD : Fm D τ τ') (hd : ∀ t i j, D t i j → t = 62 ∨ 77 < t) (ha : AgC β σ σ' L) (hb : AgM β τ τ' L) (hR : SR σ' τ') (h1 : τ' 62 0 19 = h') (h2 : τ' 62 0 30 = σ' 1 0 12) (h3 : τ' 62 0 37 = σ' 1 0 13) : MM T β σ' τ' L h' := by
  obtain ⟨m1, m2, m3, m4, m5, m6, m7, m8⟩ := hm
  exact ⟨m1.keep hLy.1 hD (fun t i j q => by have := hd t i j q; omega), m2.keep hD (fun t i j q => by have := hd t i j q; omega), fun b hb p hp => by rw [hD _ _ _ fun q => by have := hd _ _ _ q; omega]; exact m3 b hb p hp, hR, m5.cong (fun b hb => (hLy.ho b hb).2) hc ha hb, h1, h2, h3⟩
/-- finish: class and model leave the top part, whose value has been found -/
theorem leave_ok (hLy : LyC T β) (hg : g ≤ 2) {σ : SS} {x : SL} {L : List SL} (hc : Chn T b0 (x :: L)) (hF : Fm Crun β σ) (hh : σ 1 0 10 = (L.length : Int) + 1) (hS : SKA T β g σ L) (hSt : StI σ (osm β g L + hcB β (sB x) (sP x)) (2 + 40 * σ 1 0 12)) (hkn : σ 1 0 14 = 1) (hst : 0 ≤ σ 1 0 12 ∧ σ 1 0 12 ≤ 3001) (hcl : 0 ≤ σ 1 0 13 ∧ σ 1 0 13 + c1K L ≤ σ 1 0 12) (hv : vkA (kdA T (sB x) (sP x)) (σ 1 0 11) (σ 32 0 6)) :
    ∃ σ', Rn (d + 3) 122 [vr 1 0, vr 4 (sB x), vi (sP x : Int)] σ vu σ' ∧ RI T β g b0 σ' L ∧ σ' 1 0 12 = σ 1 0 12 ∧
      ∀ τ, MM T β σ τ L (L.length + 1) → τ 62 0 24 = (sF x : Int) + 1 → τ 82 0 (sF x) = sB x → τ 62 0 29 = σ 1 0 11 + kdA T (sB x) (sP x) → ∃ τ', Rn (d' + 3) 78 [vr 62 0, vi (sF x : Int), vi (40 * sB x + (sP x : Int))] τ vu τ' ∧ RR T β b0 σ' τ' L ∧ Fm Cmr τ τ' := by
  obtain ⟨hT, hW, -⟩ := id hLy
  have hx := hc.slot
  have hlen := hc.len hT hW
  have hn := (hT _ hx.1).1
  have hx12 := hx.2.1
  have hxp := hx.2.2.1
  have h8 := hLy.ho _ hx.1
  have h522 : osm β g L + hcB β (sB x) (sP x) ≤ 546 := by
    have h1 := osm_hc (g := g) hT hW (fun b hb => (hLy.ho b hb).2) hc
    have h2 : hlB β (sB x) (sP x) ≤ 40 := by
      have := cnt_le (fun i => decide (β 49 (sB x) (2 + (i : Int)) ≤ (sP x : Nat))) (β 4 (sB x) 8).toNat
      unfold hlB; omega
    omega
  obtain ⟨l1, l2, l3⟩ := c_leave (d := d) hLy hx.1 hF hh (by omega) hSt h522
  have e12 := l3 1 0 12 (by omega)
  have e13 := l3 1 0 13 (by omega)
  have e14 := l3 1 0 14 (by omega)
  have e11 := l3 1 0 11 (by omega)
  have e6 := l3 32 0 6 (by omega)
  have hag : ∀ L' : List SL, AgC β σ (up (clH β (sB x) (sP x) (β 4 (sB x) 8).toNat 2 σ) 1 0 10 (L.length : Int)) L' := fun L' => AgC.of l3 (fun t i j q => by omega)
  refine ⟨_, l1, ⟨hF.tr (l3.mono fun t i j q => by unfold Crun; omega), hc.tail, up_eq ⟨rfl, rfl, rfl⟩, hS.cong (fun b hb => (hLy.ho b hb).2) hc.tail (hag L), by rw [e12]; exact l2, by rw [e14]; exact hkn, by rw [e12]; exact hst, by rw [e12, e13]; exact hcl, fun _ => by rw [e11, e6, kind_up hT hW hc]; exact hv⟩, e12, fun τ hm h24 h82 h29 => ?_⟩
  have hSt' := hSt
  rw [hc_cH] at hSt' h522
  obtain ⟨m1, m2, m3, m4, m5, m6, m7, m8⟩ := id hm
  obtain ⟨τ1, k1, k2, k3⟩ := m_closeLoop (f := sF x) (d := d') hx.1 h8 (β 4 (sB x) 8).toNat 2 σ τ _ _ m2 m4 hSt' h522 (Int.le_refl _) (by omega)
  let τ2 := up τ1 62 0 19 (L.length : Int)
  have k19 : τ1 62 0 19 = (L.length : Int) + 1 := (k2 _ _ _ (by unfold Cstm; omega)).trans m6
  refine ⟨τ2, G_rn rfl (b_78_0 ⟨τ1, G_rn rfl (b_77_0 ⟨by omega, ?_⟩), by rw [k19]; exact irI (by omega) (by omega), fun τ3 e3 => ⟨rfl, ?_⟩⟩), ?_, (k2.mono fun t i j w => by unfold Cstm at w; unfold Cmr; omega).up (by unfold Cmr; omega)⟩
  · rw [h82]; exact k3 _ ⟨rfl, rfl⟩
  · rw [e3, k19, show (L.length : Int) + 1 - 1 = L.length by omega]
  · have f2 : Fm (fun t i j => Cstm t i j ∨ (t = 62 ∧ j = 19)) τ τ2 := (k2.mono fun t i j w => Or.inl w).up (Or.inr ⟨rfl, rfl⟩)
    have kk : ∀ j : Int, j = 24 ∨ j = 29 ∨ j = 30 ∨ j = 37 → τ2 62 0 j = τ 62 0 j := fun j hj => f2 _ _ _ (by unfold Cstm; omega)
    refine ⟨hm.move (C := fun _ _ _ => False) hLy hc.tail f2 (fun t i j w => by unfold Cstm at w; omega) (hag L) (AgM.of f2 (fun t i j w => by unfold Cstm at w; omega)) ?_ (up_eq ⟨rfl, rfl, rfl⟩) (by rw [kk 30 (by omega), e12]; exact m7) (by rw [kk 37 (by omega), e13]; exact m8), fun _ => by rw [kk 24 (by omega), calls_up hc]; exact h24, fun _ => by rw [kk 29 (by omega), e11, kind_up hT hW hc]; exact h29⟩
    exact (k1.keepC (C := fun t _ _ => t = 1) ((Fm.rf _).up rfl) (fun t i j w z => by unfold Csto at z; omega)).keep (C := fun t _ j => t = 62 ∧ j = 19) ((Fm.rf τ1).up ⟨rfl, rfl⟩) (fun t i j w z => by unfold Cstm at z; omega)
end TURN
