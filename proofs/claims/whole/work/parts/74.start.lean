/-! ===== all calls agree; the state that the constructors leave ===== -/
theorem agr_all : AgrAll Inv := ⟨fun _ _ h => Inv.step h, ag_26, ag_27, ag_28, ag_29, ag_30, ag_31, ag_32, ag_33, ag_34, ag_35, ag_36, ag_37, ag_38, ag_39, ag_40, ag_41, ag_42⟩
def sg0 (L : Nat) (xs : Nat → Int32) : SS := fun t i j => if t = 99 then (if i = 0 then (if j = -1 then (L : Int) else if 0 ≤ j ∧ j < (L : Int) then (xs j.toNat).toInt else 0) else 0) else if (t = 1 ∧ j = 15) ∨ (t = 2 ∧ j = 2) then -6 else 0
section SG
variable {L : Nat} {xs : Nat → Int32}
theorem sg_z {t : Nat} {i j : Int} (h1 : t ≠ 99) (h2 : ¬ ((t = 1 ∧ j = 15) ∨ (t = 2 ∧ j = 2))) : sg0 L xs t i j = 0 := (if_neg h1).trans (if_neg h2)
theorem sg_n {t : Nat} {i j : Int} (h2 : (t = 1 ∧ j = 15) ∨ (t = 2 ∧ j = 2)) : sg0 L xs t i j = -6 := (if_neg (by omega)).trans (if_pos h2)
theorem sg_L : sg0 L xs 99 0 (-1) = (L : Int) := rfl
theorem sg_x {j : Nat} (h : j < L) : sg0 L xs 99 0 j = (xs j).toInt := by
  show (if (j : Int) = -1 then (L : Int) else if 0 ≤ (j : Int) ∧ (j : Int) < (L : Int) then (xs (j : Int).toNat).toInt else 0) = _
  rw [if_neg (by omega), if_pos (by omega)]
  rfl
theorem sg_ir (hL : L ≤ 2048) : InR (sg0 L xs) := by
  intro t i j
  unfold sg0 ir
  have h1 := fun x : Int32 => Int32.toInt_lt x
  have h2 := fun x : Int32 => Int32.le_toInt x
  split
  · split
    · split
      · omega
      · split
        · have := h1 (xs j.toNat)
          have := h2 (xs j.toNat)
          omega
        · omega
    · omega
  · split <;> omega
theorem Inv_0 : Inv 0 (sg0 L xs) := by
  obtain ⟨σ, eσ⟩ : ∃ σ, σ = sg0 L xs := ⟨_, rfl⟩
  have z : ∀ (t : Nat) (i j : Int), t ≠ 99 → ¬ ((t = 1 ∧ j = 15) ∨ (t = 2 ∧ j = 2)) → σ t i j = 0 := fun t i j h1 h2 => by rw [eσ]; exact sg_z h1 h2
  have e1 : σ 1 0 15 = -6 := by rw [eσ]; exact sg_n (Or.inl ⟨rfl, rfl⟩)
  have e2 : σ 2 0 2 = -6 := by rw [eσ]; exact sg_n (Or.inr ⟨rfl, rfl⟩)
  have e3 : σ 2 0 1 = 0 := z _ _ _ (by omega) (by omega)
  rw [← eσ]
  refine ⟨(fun _ _ => 0, fun _ => 0, fun _ => 0, fun _ => 0), fun b hb => ⟨Nat.zero_le _, Or.inl rfl, Or.inl rfl, fun k hk => absurd hk (Nat.not_lt_zero k)⟩, ⟨fun b hb => ⟨z _ _ _ (by omega) (by omega), z _ _ _ (by omega) (by omega), z _ _ _ (by omega) (by omega), fun p p1 p2 => z _ _ _ (by omega) (by omega)⟩, fun b hb => ?_, fun b hb q => ?_, fun q => ?_⟩, fun b hb => ⟨z _ _ _ (by omega) (by omega), z _ _ _ (by omega) (by omega), z _ _ _ (by omega) (by omega), fun p p1 p2 => z _ _ _ (by omega) (by omega)⟩, ?_, ?_, ?_, fun q => ?_, fun n hn => ⟨?_, Or.inl (z _ _ _ (by omega) (by omega))⟩⟩
  · have e9 : σ 5 b 9 = 0 := z _ _ _ (by omega) (by omega)
    rw [e9]
    exact ⟨Or.inr (Or.inl ⟨rfl, fun k hk => absurd hk (Nat.not_lt_zero k), Or.inl (show opA (fun _ => 0) 0 ≠ 0 by decide)⟩), fun q => absurd q (by decide)⟩
  · have e9 : σ 5 b 9 = 0 := z _ _ _ (by omega) (by omega)
    rw [e9] at q
    exact absurd q (by decide)
  · rw [e2, e3] at q
    exact absurd q (by decide)
  · rw [e3]; omega
  · rw [e2, e3]; decide
  · rw [e1, e3]; decide
  · rw [e1, e3] at q
    exact absurd q (by decide)
  · rw [z 90 _ _ (by omega) (by omega), z 35 _ _ (by omega) (by omega)]
end SG
/-! ===== what the list heap of the constructors says, in the words of the layout ===== -/
def z0 (t k : Nat) : Int := if (t = 1 ∧ k = 15) ∨ (t = 2 ∧ k = 2) then -6 else 0
def okF (t i k : Nat) (v : PV) : Bool := match v with
  | .inl x => decide (rf t k = 0) && decide (x = z0 t k)
  | .inr none => false
  | .inr (some a) => decide (0 < rf t k) && decide (a = ad (rf t k) i)
def okC (c : PC) (q : Nat × Nat) : Bool := match c with
  | .inl (ci, vs) => decide (ak q.1 = 0) && decide (ci = cls q.1 - 1) && decide (vs.length = (kc ci).2.2) && (List.range vs.length).all (fun k => match nth vs k with
    | some v => okF q.1 q.2 k v
    | none => false)
  | .inr (kd, n, l) => decide (ak q.1 = kd) && decide (n = (ndI alL q.1).toNat) && decide (1 ≤ kd) && decide (kd ≤ 4) && (decide (kd ≤ 2) || decide (l = (List.range n).map (fun j => some (ad (el q.1) j))))
theorem h1d_all : (List.range 163).all (fun k => match h1d[k]?, cellsL[k]? with
  | some c, some q => okC c q
  | _, _ => false) = true := by decide +kernel
theorem h1d_at {k : Nat} {q : Nat × Nat} (h : cellsL[k]? = some q) : ∃ c, h1d[k]? = some c ∧ okC c q = true := by
  have hk : k < 163 := by rw [← ce_len]; exact (List.getElem?_eq_some_iff.mp h).1
  have := List.all_eq_true.mp h1d_all k (List.mem_range.mpr hk)
  cases hc : h1d[k]? with
  | none => rw [hc] at this; cases this
  | some c =>
    rw [hc, h] at this
    exact ⟨c, rfl, this⟩
section LAYOUT
variable {D : va_G} {cA : Nat → ClassId} {N0 L : Nat} {xs : Nat → Int32} {H : Heap}
theorem okF_at {t i k : Nat} {v : PV} {g : Int → Int} (hg : g k = z0 t k) (h : okF t i k v = true) : pvV N0 v = fV N0 g t i k := by
  rcases v with x | _ | a
  · simp only [okF, Bool.and_eq_true, decide_eq_true_eq] at h
    simp only [fV, h.1, pvV]
    rw [hg, h.2]
  · cases h
  · simp only [okF, Bool.and_eq_true, decide_eq_true_eq] at h
    obtain ⟨r, hr⟩ : ∃ r, rf t k = r + 1 := ⟨rf t k - 1, by omega⟩
    simp only [fV, hr, pvV]
    rw [h.2, hr]
theorem pl_eq {vs : List PV} {f : Nat → Value} {n : Nat} (hn : vs.length = n) (h : ∀ (j : Nat) (v : PV), vs[j]? = some v → pvV N0 v = f j) : vs.map (pvV N0) = (List.range n).map f := by
  apply List.ext_getElem?
  intro j
  by_cases hj : j < vs.length
  · have hv : vs[j]? = some vs[j] := List.getElem?_eq_getElem hj
    rw [List.getElem?_map, hv, List.getElem?_map, List.getElem?_range (by rw [← hn]; exact hj), Option.map_some, Option.map_some, h j _ hv]
  · rw [List.getElem?_eq_none (by rw [List.length_map]; omega), List.getElem?_eq_none (by rw [List.length_map, List.length_range]; omega)]
theorem pE_o (ci : Nat) (vs : List PV) : pE cA N0 (.inl (ci, vs)) = .inr (ci, vs.map (pvV N0)) := rfl
theorem pE_1 (n : Nat) (l : List (Option Nat)) : pE cA N0 (.inr (1, n, l)) = .inl (cA 1, n, .inl (fun _ => 0)) := rfl
theorem pE_2 (n : Nat) (l : List (Option Nat)) : pE cA N0 (.inr (2, n, l)) = .inl (cA 2, n, .inl (fun _ => 0)) := rfl
theorem pE_3 (n : Nat) (l : List (Option Nat)) : pE cA N0 (.inr (3, n, l)) = .inl (cA 3, n, .inr (.inr (.inr (.inr (fun j => (l.getD j none).map (fun k => N0 + k)))))) := rfl
theorem pE_4 (n : Nat) (l : List (Option Nat)) : pE cA N0 (.inr (4, n, l)) = .inl (cA 4, n, .inr (.inr (.inr (.inr (fun j => (l.getD j none).map (fun k => N0 + k)))))) := rfl
theorem arrV_cong {cI : ClassId} {n : Nat} {f f' : Nat → Value} (h : ∀ j, j < n → f j = f' j) : arrV cI n f = arrV cI n f' := by
  have : (fun j : Fin n => f j.val) = fun j : Fin n => f' j.val := funext fun j => h j.val j.isLt
  unfold arrV
  rw [this]
theorem z0_0 {t : Nat} (h : 1 ≤ ak t) (j : Nat) : z0 t j = 0 := by
  refine if_neg fun w => ?_
  rcases w with w | w
  · rw [w.1] at h; exact absurd h (by decide)
  · rw [w.1] at h; exact absurd h (by decide)
theorem gz {t : Nat} {g : Int → Int} (hg : ∀ k : Nat, g k = z0 t k) (h : 1 ≤ ak t) : (fun _ : Nat => (0 : Int32)) = fun j : Nat => Int32.ofInt (g j) := funext fun j => by rw [hg, z0_0 h]; rfl
theorem qz {n m : Nat} {l : List (Option Nat)} (o5 : l = (List.range n).map (fun j => some (ad m j))) (cI : ClassId) : vp_cell cI (n, .inr (.inr (.inr (.inr (fun j => (l.getD j none).map (fun k => N0 + k)))))) = vp_cell cI (n, .inr (.inr (.inr (.inr (fun j => some (N0 + ad m j)))))) := by
  rw [vp_cell_q, vp_cell_q]
  refine arrV_cong fun j hj => ?_
  rw [o5, List.getD_eq_getElem?_getD, List.getElem?_map, List.getElem?_range hj, Option.map_some, Option.getD_some, Option.map_some]
theorem cF_o {g : Int → Int} {t i : Nat} (h : ak t = 0) : cF cA N0 g (t, i) = .inr (cls t - 1, (List.range (kc (cls t - 1)).2.2).map (fV N0 g t i)) := by simp only [cF, h]
theorem cF_1 {g : Int → Int} {t i : Nat} (h : ak t = 1) : cF cA N0 g (t, i) = .inl (cA 1, (ndI alL t).toNat, .inl (fun j => Int32.ofInt (g j))) := by simp only [cF, h]
theorem cF_2 {g : Int → Int} {t i : Nat} (h : ak t = 2) : cF cA N0 g (t, i) = .inl (cA 2, (ndI alL t).toNat, .inl (fun j => Int32.ofInt (g j))) := by simp only [cF, h]
theorem cF_3 {g : Int → Int} {t i : Nat} (h : ak t = 3) : cF cA N0 g (t, i) = .inl (cA 3, (ndI alL t).toNat, .inr (.inr (.inr (.inr (fun j => some (N0 + ad (el t) j)))))) := by simp only [cF, h]
theorem cF_4 {g : Int → Int} {t i : Nat} (h : ak t = 4) : cF cA N0 g (t, i) = .inl (cA 4, (ndI alL t).toNat, .inr (.inr (.inr (.inr (fun j => some (N0 + ad (el t) j)))))) := by simp only [cF, h]
theorem okC_o {ci t i a : Nat} {vs : List PV} {g : Int → Int} (hg : ∀ k : Nat, g k = z0 t k) (h : okC (.inl (ci, vs)) (t, i) = true) (h1 : va_at D vwCl (a, pE cA N0 (.inl (ci, vs))) H) : va_at D vwCl (a, cF cA N0 g (t, i)) H := by
  simp only [okC, Bool.and_eq_true, decide_eq_true_eq] at h
  obtain ⟨⟨⟨o1, o2⟩, o3⟩, o4⟩ := h
  rw [cF_o o1, ← o2]
  rw [pE_o, pl_eq (f := fV N0 g t i) o3 (fun j v hv => ?_)] at h1
  · exact h1
  · have hj : j < vs.length := (List.getElem?_eq_some_iff.mp hv).1
    have := List.all_eq_true.mp o4 j (List.mem_range.mpr hj)
    cases hn : nth vs j with
    | none => rw [hn] at this; cases this
    | some w =>
      rw [hn] at this
      have e := nth_get hn
      rw [hv] at e
      cases e
      exact okF_at (hg j) this
theorem okC_a {kd n t i a : Nat} {l : List (Option Nat)} {g : Int → Int} (hg : ∀ k : Nat, g k = z0 t k) (h : okC (.inr (kd, n, l)) (t, i) = true) (h1 : va_at D vwCl (a, pE cA N0 (.inr (kd, n, l))) H) : va_at D vwCl (a, cF cA N0 g (t, i)) H := by
  simp only [okC, Bool.and_eq_true, Bool.or_eq_true, decide_eq_true_eq] at h
  obtain ⟨⟨⟨⟨o1, o2⟩, o3⟩, o4⟩, o5⟩ := h
  rcases (show kd = 1 ∨ kd = 2 ∨ kd = 3 ∨ kd = 4 by omega) with q | q | q | q
  · rw [q] at o1 h1
    rw [pE_1, gz hg (by omega), o2] at h1
    rw [cF_1 o1]
    exact h1
  · rw [q] at o1 h1
    rw [pE_2, gz hg (by omega), o2] at h1
    rw [cF_2 o1]
    exact h1
  · rw [q] at o1 h1
    have o5 := o5.resolve_left (by omega)
    rw [pE_3] at h1
    have h2 : H[a]? = some (vp_cell (cA 3) (n, .inr (.inr (.inr (.inr (fun j => (l.getD j none).map (fun k => N0 + k))))))) := h1
    rw [qz o5] at h2
    rw [cF_3 o1, ← o2]
    exact h2
  · rw [q] at o1 h1
    have o5 := o5.resolve_left (by omega)
    rw [pE_4] at h1
    have h2 : H[a]? = some (vp_cell (cA 4) (n, .inr (.inr (.inr (.inr (fun j => (l.getD j none).map (fun k => N0 + k))))))) := h1
    rw [qz o5] at h2
    rw [cF_4 o1, ← o2]
    exact h2
theorem sg_z0 {t i : Nat} (ht : t < 99) (k : Nat) : sg0 L xs t i k = z0 t k := by
  unfold z0
  split
  · exact sg_n (by omega)
  · exact sg_z (by omega) (by omega)
theorem ws_gen {h : PH} (hh : ∀ (k : Nat) (q : Nat × Nat), cellsL[k]? = some q → ∃ c, h[k]? = some c ∧ okC c q = true) (hP : va_P D vwCl (ws1 cA N0 h) H) : va_P D vwCl (wsO cA N0 (sg0 L xs)) H := by
  intro k q hk
  simp only [wsO, List.getElem?_map] at hk
  cases hc : cellsL[k]? with
  | none => rw [hc] at hk; cases hk
  | some r =>
    rw [hc] at hk
    obtain ⟨t, i⟩ := r
    obtain ⟨e1, e2, e3⟩ := ce_at hc
    obtain ⟨c, hcc, hok⟩ := hh k _ hc
    have h1 := hP k _ (ws1_at (cA := cA) (N0 := N0) hcc)
    cases hk
    show va_at D vwCl (N0 + ad t i, cF cA N0 (sg0 L xs t i) (t, i)) H
    have e1 : ad t i = k := e1
    rw [e1]
    rcases c with ⟨ci, vs⟩ | ⟨kd, n, l⟩
    · exact okC_o (sg_z0 e3) hok h1
    · exact okC_a (sg_z0 e3) hok h1
theorem ws_eq (hP : va_P D vwCl (ws1 cA N0 h1d) H) : va_P D vwCl (wsO cA N0 (sg0 L xs)) H := ws_gen (fun _ _ h => h1d_at h) hP
end LAYOUT
