def G (d : Nat) (P : AV → SS → Prop) (y : Nat) (pc : Nat) (la sa : List AV) (σ : SS) : Prop := ∃ n, lp (Rn d) P (cd y) (bzm y) n pc la sa σ
def Ok (d y : Nat) (as : List AV) (σ : SS) (P : AV → SS → Prop) : Prop := ∃ v σ', Rn d y as σ v σ' ∧ P v σ'
def stat (y : Nat) (as : List AV) : Bool := decide (y < 140) && (!inL.elem y) && (cat1 as && Nat.ble as.length (nl y))
theorem lp_exact {y : Nat} (hy : y < 141) (hn : y ∉ inL) {Cal : CT} {P : AV → SS → Prop} : ∀ (n pc : Nat) (la sa : List AV) (σ : SS), lp Cal P (cd y) (bzm y) n pc la sa σ → ∃ v σ', P v σ' ∧ lp Cal (fun v1 σ1 => v1 = v ∧ σ1 = σ') (cd y) (bzm y) n pc la sa σ
  | 0, _, _, _, _, h => h.elim
  | n + 1, pc, la, sa, σ, h => by
    simp only [lp] at h ⊢
    cases hi : nth (cd y) pc with
    | none => rw [hi] at h; exact h.elim
    | some ins =>
      rw [hi] at h
      rcases stp_one (chk_split (chk_in hy hn hi)).2.1 h with ⟨v, σ', h1, h2⟩ | ⟨pc', la', sa', σ', h1, h2⟩
      · exact ⟨v, σ', h1, h2 _ _ ⟨rfl, rfl⟩⟩
      · obtain ⟨v, σ'', k1, k2⟩ := lp_exact hy hn n pc' la' sa' σ' h1
        exact ⟨v, σ'', k1, h2 _ _ k2⟩
theorem G_ok {d y : Nat} {as : List AV} {σ : SS} {P : AV → SS → Prop} (h0 : stat y as = true) (h : G d P y 0 (ent (nl y) as) [] σ) : Ok (d + 1) y as σ P := by
  obtain ⟨hy, hn, -, -⟩ := rn_hyp h0
  obtain ⟨n, h⟩ := h
  obtain ⟨v, σ', h1, h2⟩ := lp_exact (by omega) hn n 0 _ _ σ h
  exact ⟨v, σ', ⟨h0, n, h2⟩, h1⟩
theorem G_rn {d y : Nat} {as : List AV} {σ σ' : SS} {v : AV} (h0 : stat y as = true) (h : G d (fun v1 σ1 => v1 = v ∧ σ1 = σ') y 0 (ent (nl y) as) [] σ) : Rn (d + 1) y as σ v σ' := ⟨h0, h⟩
theorem Ok_rn {d y : Nat} {as : List AV} {σ σ' : SS} {v : AV} (h : Ok d y as σ (fun v1 σ1 => v1 = v ∧ σ1 = σ')) : Rn d y as σ v σ' := by
  obtain ⟨v1, σ1, h1, rfl, rfl⟩ := h
  exact h1
theorem G_mono {d y : Nat} (hy : y < 141) (hn : y ∉ inL) {P P' : AV → SS → Prop} {pc : Nat} {la sa : List AV} {σ : SS} (h : G d P y pc la sa σ) (hp : ∀ v σ', P v σ' → P' v σ') : G d P' y pc la sa σ := by
  obtain ⟨n, h⟩ := h
  refine ⟨n, ?_⟩
  have key : ∀ (n pc : Nat) (la sa : List AV) (σ : SS), lp (Rn d) P (cd y) (bzm y) n pc la sa σ → lp (Rn d) P' (cd y) (bzm y) n pc la sa σ := by
    intro n
    induction n with
    | zero => intro _ _ _ _ h; exact h.elim
    | succ n ih =>
      intro pc la sa σ h
      simp only [lp] at h ⊢
      cases hi : nth (cd y) pc with
      | none => rw [hi] at h; exact h.elim
      | some ins =>
        rw [hi] at h
        rcases stp_one (chk_split (chk_in hy hn hi)).2.1 h with ⟨v, σ', h1, h2⟩ | ⟨pc', la', sa', σ', h1, h2⟩
        · exact h2 _ _ (hp _ _ h1)
        · exact h2 _ _ (ih _ _ _ _ h1)
  exact key n pc la sa σ h
theorem G_step {d y : Nat} (hy : y < 141) (hn : y ∉ inL) {P : AV → SS → Prop} {pc : Nat} {ins : AI} {la sa : List AV} {σ : SS} (hi : nth (cd y) pc = some ins) (h : stp (Rn d) noS P (G d P y) (bzm y) ins pc la sa σ) : G d P y pc la sa σ := by
  rcases stp_one (chk_split (chk_in hy hn hi)).2.1 h with ⟨v, σ', h1, h2⟩ | ⟨pc', la', sa', σ', ⟨n, h1⟩, h2⟩
  · exact ⟨1, by simp only [lp, hi]; exact h2 _ _ h1⟩
  · exact ⟨n + 1, by rw [lp, hi]; exact h2 _ _ h1⟩
def shp : Nat → AV → Prop
  | 0, v => v = vu
  | 1, v => ∃ x, v = .inl x
  | _, v => ∃ r, v = .inr (.inl r)
/-- short answers that hold of methods -/
def SV (d : Nat) (S : ST) : Prop := ∀ (y : Nat) (as : List AV) (σ : SS) (o : Option Prop) (v : AV) (σ' : SS), S y as σ = some (o, v, σ') → (∀ q, o = some q → q) → Rn d y as σ v σ' ∧ ∀ k, chkK.chkR (rt y) k = true → shp k v
theorem SV_no (d : Nat) : SV d noS := fun y as σ o v σ' h => by cases h
theorem stp_S {d y : Nat} {S : ST} (hS : SV d S) {ret : AV → SS → Prop} {K : KT} {ins : AI} {pc : Nat} {la sa : List AV} {σ : SS} {bz : Bool} (hC : chkK (oc y) ins = true)
    (hst0 : stp (Rn d) S ret K bz ins pc la sa σ) : stp (Rn d) noS ret K bz ins pc la sa σ := by
  obtain ⟨J, ns, z⟩ := ins
  have key : (∀ y0 n0 c0 k0, ns = [y0, n0, c0, k0] → chkK.chkR (rt y0) k0 = true) → acl (Rn d) S K ns pc la sa σ → acl (Rn d) noS K ns pc la sa σ := by
    intro hR hst
    simp only [acl] at hst ⊢
    split at hst
    case h_3 => exact hst.elim
    case h_2 => exact hst
    rename_i y0 n0 c0 k0
    have hr := hR y0 n0 c0 k0 rfl
    split at hst
    case h_2 => exact hst.elim
    rename_i as0 st0 hpop
    obtain ⟨hb0, hst2⟩ := bif_t hst
    clear hst
    refine bif_i hb0 ?_
    simp only [noS]
    split at hst2
    · rename_i v σ' h1
      obtain ⟨g1, g2⟩ := hS _ _ _ _ _ _ h1 (fun q h => by cases h)
      have g3 := g2 k0 hr
      rcases k0 with _ | _ | k0
      · cases g3; exact ⟨σ', g1, hst2⟩
      · obtain ⟨x, rfl⟩ := g3; exact ⟨x, σ', g1, hst2⟩
      · obtain ⟨r, rfl⟩ := g3; exact ⟨r, σ', g1, hst2⟩
    · rename_i o v σ' h1
      obtain ⟨g1, g2⟩ := hS _ _ _ _ _ _ h1 (fun q h => by cases h; exact hst2.1)
      have g3 := g2 k0 hr
      rcases k0 with _ | _ | k0
      · cases g3; exact ⟨σ', g1, hst2.2⟩
      · obtain ⟨x, rfl⟩ := g3; exact ⟨x, σ', g1, hst2.2⟩
      · obtain ⟨r, rfl⟩ := g3; exact ⟨r, σ', g1, hst2.2⟩
    · exact hst2
  cases J
  case invokevirtual n =>
    refine key ?_ hst0
    rintro y0 n0 c0 k0 rfl
    have hCk : (lkm.any (fun e => decide (e.1 = oc y) && decide (e.2.1 = n) && decide (e.2.2.1 = y0)) && !isS y0 && decide (n0 = np y0 + 1) && decide (cn (c0 - 1) = (nm y0).cls) && decide (0 < c0) && decide (c0 < 10) && chkK.chkR (rt y0) k0 && decide ((nm y0).name ≠ "<init>")) = true := hC
    simp only [Bool.and_eq_true] at hCk
    exact hCk.1.2
  case invokestatic n =>
    refine key ?_ hst0
    rintro y0 n0 c0 k0 rfl
    have hCk : ((lkm.any (fun e => decide (e.1 = oc y) && decide (e.2.1 = n) && decide (e.2.2.1 = y0)) && decide ((nm y0).cls = cn (oc y)) || lkn.any (fun e => decide (e.1 = oc y) && decide (e.2.1 = n) && decide (e.2.2.1 = y0))) && isS y0 && decide (n0 = np y0) && decide (c0 = 0) && chkK.chkR (rt y0) k0) = true := hC
    simp only [Bool.and_eq_true] at hCk
    exact hCk.2
  all_goals exact hst0
theorem stp_mono {y : Nat} {Cal : CT} {S : ST} {ret : AV → SS → Prop} {K K' : KT} {ins : AI} {pc : Nat} {la sa : List AV} {σ : SS} {bz : Bool} (hT : chkT (bp y) pc ins = true) (hK : ∀ pc la sa σ, K pc la sa σ → K' pc la sa σ)
    (hst : stp Cal S ret K bz ins pc la sa σ) : stp Cal S ret K' bz ins pc la sa σ := by
  rcases stp_one hT hst with ⟨v, σ', h1, h2⟩ | ⟨pc', la', sa', σ', h1, h2⟩
  · exact h2 _ _ h1
  · exact h2 _ _ (hK _ _ _ _ h1)
