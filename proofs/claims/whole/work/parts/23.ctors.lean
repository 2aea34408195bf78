theorem bif_o {α : Type} {q : Bool} {A : Option α} {b : α} (h : (bif q then A else none) = some b) : q = true ∧ A = some b := by cases q <;> simp_all
theorem szs_app (h : PH) (c : PC) : szs (h ++ [c]) = szs h + szC c := by simp [szs]
theorem szs_set : ∀ (h : PH) (a : Nat) (c c' : PC), h[a]? = some c → szC c' = szC c → szs (h.set a c') = szs h
  | [], _, _, _, h, _ => by simp at h
  | x :: h, 0, c, c', hh, e => by simp only [List.getElem?_cons_zero, Option.some.injEq] at hh; subst hh; simp [szs, e]
  | x :: h, a + 1, c, c', hh, e => by
    have := szs_set h a c c' (by simpa using hh) e
    simp only [szs, List.set_cons_succ, List.map_cons, List.sum_cons] at this ⊢
    omega
def Mon (h h' : PH) : Prop := h.length ≤ h'.length ∧ szs h ≤ szs h'
theorem Mon.app {h h' : PH} {c : PC} (m : Mon (h ++ [c]) h') : Mon h h' := by
  have h1 := m.1; have h2 := m.2
  rw [szs_app] at h2
  simp at h1
  exact ⟨by omega, by omega⟩
theorem Mon.set {h h' : PH} {a : Nat} {c c' : PC} (hc : h[a]? = some c) (e : szC c' = szC c) (m : Mon (h.set a c') h') : Mon h h' := by
  have h1 := m.1; have h2 := m.2
  rw [szs_set h a c c' hc e] at h2
  simp at h1
  exact ⟨h1, h2⟩
theorem p1_mono {Cal : Nat → List PV → PH → Option PH} {o : Nat} {c : List AI} {hf : PH} (hC : ∀ y as h h', Cal y as h = some h' → Mon h h') : ∀ (n pc : Nat) (ls : List (Option PV)) (st : List PV) (h : PH), p1 Cal o c n pc ls st h = some hf → Mon h hf
  | 0, _, _, _, _, hp => by simp [p1] at hp
  | n + 1, pc, ls, st, h, hp => by
    have ih := fun pc ls st h => p1_mono (o := o) (c := c) (hf := hf) hC n pc ls st h
    simp only [p1] at hp
    split at hp
    · cases hp
    split at hp
    · split at hp
      · exact ih _ _ _ _ hp
      · cases hp
    · split at hp
      · exact ih _ _ _ _ hp
      · cases hp
    · exact ih _ _ _ _ (bif_o hp).2
    · exact ih _ _ _ _ hp
    · exact ih _ _ _ _ hp
    · exact ih _ _ _ _ hp
    · exact ih _ _ _ _ hp
    · split at hp
      · exact (ih _ _ _ _ hp).app
      · cases hp
    · exact (ih _ _ _ _ (bif_o hp).2).app
    · exact (ih _ _ _ _ (bif_o hp).2).app
    · split at hp
      · exact (ih _ _ _ _ (bif_o hp).2).app
      · exact (ih _ _ _ _ (bif_o hp).2).app
      · cases hp
    · split at hp
      · rename_i h1 h2
        have m := ih _ _ _ _ (bif_o hp).2
        exact Mon.set h1 (by rfl) m
      · rename_i h1 h2
        have m := ih _ _ _ _ (bif_o hp).2
        exact Mon.set h1 (by rfl) m
      · cases hp
    · split at hp
      · split at hp
        · exact ih _ _ _ _ (bif_o hp).2
        · cases hp
      · cases hp
    · split at hp
      · rename_i h1
        exact Mon.set h1 (by simp [szC]) (ih _ _ _ _ (bif_o hp).2)
      · cases hp
    · split at hp
      · exact ih _ _ _ _ (bif_o hp).2
      · cases hp
    · exact ih _ _ _ _ (bif_o hp).2
    · exact ih _ _ _ _ (bif_o hp).2
    · exact ih _ _ _ _ hp
    · split at hp
      · exact ih _ _ _ _ (bif_o hp).2
      · cases hp
    · exact ih _ _ _ _ (bif_o hp).2
    · split at hp
      · obtain ⟨-, hp⟩ := bif_o hp
        split at hp
        · rename_i h1
          have m1 := hC _ _ _ _ h1
          have m2 := ih _ _ _ _ hp
          exact ⟨Nat.le_trans m1.1 m2.1, Nat.le_trans m1.2 m2.2⟩
        · cases hp
      · cases hp
    · cases hp; exact ⟨Nat.le_refl _, Nat.le_refl _⟩
    · cases hp
theorem P1_mono : ∀ (d y : Nat) (as : List PV) (h h' : PH), P1 d y as h = some h' → Mon h h'
  | 0, _, _, _, _, hp => by simp [P1] at hp
  | d + 1, y, as, h, h', hp => by
    simp only [P1] at hp
    exact p1_mono (fun y as h h' q => P1_mono d y as h h' q) _ _ _ _ _ (bif_o hp).2
/-! ===== what the list heap stands for ===== -/
def pvV (N0 : Nat) : PV → Value
  | .inl x => .int (Int32.ofInt x)
  | .inr none => .null
  | .inr (some k) => .ref (N0 + k)
def pE (cA : Nat → ClassId) (N0 : Nat) : PC → va_E
  | .inl (ci, vs) => .inr (ci, vs.map (pvV N0))
  | .inr (1, n, _) => .inl (cA 1, n, .inl (fun _ => 0))
  | .inr (2, n, _) => .inl (cA 2, n, .inl (fun _ => 0))
  | .inr (3, n, l) => .inl (cA 3, n, .inr (.inr (.inr (.inr (fun j => (l.getD j none).map (fun k => N0 + k))))))
  | .inr (_, n, l) => .inl (cA 4, n, .inr (.inr (.inr (.inr (fun j => (l.getD j none).map (fun k => N0 + k))))))
def ws1 (cA : Nat → ClassId) (N0 : Nat) (h : PH) : va_W := h.mapIdx (fun k c => (N0 + k, pE cA N0 c))
section WS1
variable {D : va_G} {cA : Nat → ClassId} {N0 : Nat}
theorem ws1_at {h : PH} {a : Nat} {c : PC} (hc : h[a]? = some c) : (ws1 cA N0 h)[a]? = some (N0 + a, pE cA N0 c) := by
  simp only [ws1, List.getElem?_mapIdx, hc, Option.map_some]
theorem ws1_app (h : PH) (c : PC) : ws1 cA N0 (h ++ [c]) = ws1 cA N0 h ++ [(N0 + h.length, pE cA N0 c)] := by
  simp [ws1]
theorem ws1_set {h : PH} {a : Nat} {c : PC} : ws1 cA N0 (h.set a c) = (ws1 cA N0 h).set a (N0 + a, pE cA N0 c) := by
  apply List.ext_getElem?
  intro k
  simp only [ws1, List.getElem?_mapIdx, List.getElem?_set, List.length_mapIdx]
  split
  · rename_i e
    subst e
    split
    · rfl
    · rfl
  · rfl
theorem ws1_D (h : PH) : va_D (fun q => N0 ≤ q) (ws1 cA N0 h) := by
  have key : ∀ (k : Nat) (q : Nat × va_E), (ws1 cA N0 h)[k]? = some q → q.1 = N0 + k := by
    intro k q hk
    simp only [ws1, List.getElem?_mapIdx, Option.map_eq_some_iff] at hk
    obtain ⟨c, -, rfl⟩ := hk
    rfl
  exact ⟨fun i j p q h1 h2 h3 => by have := key i p h1; have := key j q h2; omega, fun k q h => by have := key k q h; show N0 ≤ q.1; omega⟩
end WS1
def L1 (N0 nL : Nat) (ls : Array Slot) (la : List (Option PV)) : Prop := la.length = nL ∧ ∃ l, lv_has ls nL l ∧ ∀ (i : Nat) (v : PV), nth la i = some (some v) → (i, pvV N0 v) ∈ l
theorem L1.at {N0 nL : Nat} {ls : Array Slot} {la : List (Option PV)} (h : L1 N0 nL ls la) {i : Nat} {v : PV} (hi : nth la i = some (some v)) : ls[i]? = some (.val (pvV N0 v)) := by
  obtain ⟨-, l, h1, h2⟩ := h
  exact h1.2.2 _ (h2 i v hi)
theorem stP_len : ∀ (l : List (Option PV)) (i : Nat) (v : Option PV), (stP l i v).length = l.length
  | [], 0, _ => rfl
  | [], _ + 1, _ => rfl
  | _ :: _, 0, _ => rfl
  | _ :: l, i + 1, v => by simp [stP, stP_len l i v]
theorem nth_stP : ∀ (l : List (Option PV)) (i j : Nat) (v w : Option PV), nth (stP l i v) j = some w → (j = i ∧ w = v) ∨ (j ≠ i ∧ nth l j = some w)
  | [], 0, _, _, _, h => by simp [stP, nth] at h
  | [], _ + 1, _, _, _, h => by simp [stP, nth] at h
  | _ :: _, 0, 0, v, w, h => by simp only [stP, nth, Option.some.injEq] at h; exact Or.inl ⟨rfl, h.symm⟩
  | _ :: l, 0, j + 1, v, w, h => by simp only [stP, nth] at h; exact Or.inr ⟨by omega, h⟩
  | a :: l, i + 1, 0, v, w, h => by simp only [stP, nth] at h; exact Or.inr ⟨by omega, h⟩
  | a :: l, i + 1, j + 1, v, w, h => by
    simp only [stP, nth] at h
    rcases nth_stP l i j v w h with ⟨a, b⟩ | ⟨a, b⟩
    · exact Or.inl ⟨by omega, b⟩
    · exact Or.inr ⟨by omega, b⟩
theorem pcat (N0 : Nat) (v : PV) : (pvV N0 v).category = 1 := by
  rcases v with x | _ | k <;> rfl
theorem L1.set {N0 nL : Nat} {ls' : Array Slot} {la : List (Option PV)} {l : List (Nat × Value)} {i : Nat} {v : PV} (hl : la.length = nL) (h2 : ∀ (i : Nat) (v : PV), nth la i = some (some v) → (i, pvV N0 v) ∈ l)
    (h : lv_has ls' nL ((i, pvV N0 v) :: l.filter (fun q => !(q.1 == i) && !(q.1 + 1 == i && q.2.category == 2)))) : L1 N0 nL ls' (stP la i (some v)) := by
  refine ⟨by rw [stP_len, hl], _, h, fun j w hw => ?_⟩
  rcases nth_stP _ _ _ _ _ hw with ⟨e1, e2⟩ | ⟨e1, e2⟩
  · subst e1; cases e2; exact List.mem_cons_self
  · refine List.mem_cons_of_mem _ (List.mem_filter.mpr ⟨h2 j w e2, ?_⟩)
    simp only [pcat]
    simp [e1]
