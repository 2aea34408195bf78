/-! ===== the stack of a run: slots (body, frame, place, stage), the top first ===== -/
abbrev SL : Type := Int × Nat × Nat × Nat
abbrev sB (x : SL) : Int := x.1
abbrev sF (x : SL) : Nat := x.2.1
abbrev sP (x : SL) : Nat := x.2.2.1
abbrev sS (x : SL) : Nat := x.2.2.2
/-- the kind of sign at a slot -/
abbrev sK (T : TP) (x : SL) : Int := kos (tS T (sB x) (sP x))
def slotOK (T : TP) (x : SL) : Prop := isB (sB x) ∧ sF x ≤ 12 ∧ sP x < tN T (sB x) ∧ nmA (tS T (sB x)) (sP x) = false ∧ sS x ≤ 2 ∧ (1 ≤ sS x → 1 ≤ inn (sK T x)) ∧ (sS x = 2 → sK T x = 6 ∨ sK T x = 7 ∨ sK T x = 8 ∨ sK T x = 9)
/-- x has been begun by y -/
def link (T : TP) (y x : SL) : Prop :=
  (sB x = sB y ∧ sF x = sF y ∧ ((sS y = 1 ∧ sP x = c0A (tS T (sB y)) (sP y)) ∨ (sS y = 2 ∧ (sK T y = 6 ∨ sK T y = 8) ∧ sP x = c1A (tN T (sB y)) (tS T (sB y)) (sP y)) ∨ (sS y = 2 ∧ sK T y = 7 ∧ (sP x = c1A (tN T (sB y)) (tS T (sB y)) (sP y) ∨ sP x = c2A (tN T (sB y)) (tS T (sB y)) (sP y))))) ∨
  (sF x = sF y + 1 ∧ sP x = 0 ∧ sK T y = 9 ∧ sS y = 2 ∧ sB x = ofA (tS T (sB y)) (sP y))
def Chn (T : TP) (b0 : Int) : List SL → Prop
  | [] => True
  | [x] => slotOK T x ∧ sB x = b0 ∧ sF x = 0 ∧ sP x = 0
  | x :: y :: L => slotOK T x ∧ link T y x ∧ Chn T b0 (y :: L)
/-- how many homes lie at a place; at places up to it -/
def hcB (β : SS) (b : Int) (p : Nat) : Nat := cntA (fun i => decide (β 49 b (2 + (i : Int)) = p)) (β 4 b 8).toNat
def hlB (β : SS) (b : Int) (p : Nat) : Nat := cntA (fun i => decide (β 49 b (2 + (i : Int)) ≤ p)) (β 4 b 8).toNat
def osm (β : SS) (g : Nat) : List SL → Nat
  | [] => g
  | x :: L => osm β g L + (if 1 ≤ sS x then hcB β (sB x) (sP x) else 0)
theorem cnt_add {f g h : Nat → Bool} : ∀ {k : Nat}, (∀ j, j < k → (f j = true → h j = true ∧ g j = false) ∧ (g j = true → h j = true)) → cntA f k + cntA g k ≤ cntA h k
  | 0, _ => Nat.le_refl _
  | k + 1, hh => by
    have := cnt_add (k := k) fun j hj => hh j (by omega)
    obtain ⟨a, b⟩ := hh k (by omega)
    simp only [cntA]
    cases hf : f k <;> cases hg : g k <;> cases hk : h k <;> simp_all <;> omega
theorem hl_add (β : SS) (b : Int) {p q : Nat} (h : p < q) : hlB β b p + hcB β b q ≤ hlB β b q := by
  unfold hlB hcB
  refine cnt_add fun j _ => ⟨fun e => ?_, fun e => ?_⟩
  · simp only [decide_eq_true_eq] at e
    simp; omega
  · simp only [decide_eq_true_eq] at e
    simp; omega
theorem hc_hl (β : SS) (b : Int) (p : Nat) : hcB β b p ≤ hlB β b p := by
  unfold hlB hcB
  refine cnt_mono fun j _ e => ?_
  simp only [decide_eq_true_eq] at e ⊢
  omega
section CHN
variable {T : TP} {b0 : Int} {β : SS} {g : Nat}
theorem Chn.slot {x : SL} {L : List SL} (h : Chn T b0 (x :: L)) : slotOK T x := by
  cases L with
  | nil => exact h.1
  | cons y L => exact h.1
theorem Chn.tail {x : SL} {L : List SL} (h : Chn T b0 (x :: L)) : Chn T b0 L := by
  cases L with
  | nil => trivial
  | cons y L => exact h.2.2
theorem kid_of (hW : welA T) {y x : SL} (hy : slotOK T y) (h : sB x = sB y ∧ sF x = sF y ∧ ((sS y = 1 ∧ sP x = c0A (tS T (sB y)) (sP y)) ∨ (sS y = 2 ∧ (sK T y = 6 ∨ sK T y = 8) ∧ sP x = c1A (tN T (sB y)) (tS T (sB y)) (sP y)) ∨ (sS y = 2 ∧ sK T y = 7 ∧ (sP x = c1A (tN T (sB y)) (tS T (sB y)) (sP y) ∨ sP x = c2A (tN T (sB y)) (tS T (sB y)) (sP y))))) : ∃ i, kidA (tN T (sB y)) (tS T (sB y)) (sP y) i (sP x) ∧ 1 ≤ sS y ∧ (i ≠ 0 → sS y = 2) := by
  obtain ⟨-, -, h⟩ := h
  obtain ⟨h1, h2, h3, h4, h5, h6, h7⟩ := hy
  rcases h with ⟨a, c⟩ | ⟨a, k, c⟩ | ⟨a, k, c | c⟩
  · exact ⟨0, ⟨by have h6' : 1 ≤ inn (kos (tS T (sB y) (sP y))) := h6 (by omega); omega, Or.inl ⟨rfl, c⟩⟩, by omega, fun q => absurd rfl q⟩
  · refine ⟨1, ⟨?_, Or.inr (Or.inl ⟨rfl, c⟩)⟩, by omega, fun _ => a⟩
    rcases k with k | k <;> rw [show kos (tS T (sB y) (sP y)) = _ from k] <;> decide
  · exact ⟨1, ⟨by rw [show kos (tS T (sB y) (sP y)) = 7 from k]; decide, Or.inr (Or.inl ⟨rfl, c⟩)⟩, by omega, fun _ => a⟩
  · exact ⟨2, ⟨by rw [show kos (tS T (sB y) (sP y)) = 7 from k]; decide, Or.inr (Or.inr ⟨rfl, c⟩)⟩, by omega, fun _ => a⟩
/-- all that lies below is of an earlier frame, or of an earlier place -/
theorem Chn.lex (hW : welA T) : ∀ {L : List SL} {x : SL}, Chn T b0 (x :: L) → ∀ y, y ∈ L → sF y < sF x ∨ (sF y = sF x ∧ sP y < sP x ∧ sB y = sB x)
  | [], _, _, y, hy => by cases hy
  | z :: L, x, h, y, hy => by
    have hz := (Chn.tail h).slot
    have ih := Chn.lex hW (Chn.tail h)
    have hzx : sF z < sF x ∨ (sF z = sF x ∧ sP z < sP x ∧ sB z = sB x) := by
      rcases h.2.1 with k | k
      · obtain ⟨i, k1, -⟩ := kid_of hW hz k
        have := kid_lt (hW _ hz.1).1 hz.2.2.1 hz.2.2.2.1 k1
        exact Or.inr ⟨k.2.1.symm, this.1, k.1.symm⟩
      · left; omega
    rcases List.mem_cons.mp hy with e | e
    · subst e; exact hzx
    · rcases ih y e with w | ⟨w1, w2, w3⟩ <;> rcases hzx with u | ⟨u1, u2, u3⟩
      · left; omega
      · left; omega
      · left; omega
      · exact Or.inr ⟨by omega, by omega, by rw [w3, u3]⟩
theorem Chn.len (hT : TOKA T) (hW : welA T) : ∀ {L : List SL} {x : SL}, Chn T b0 (x :: L) → L.length ≤ 40 * sF x + sP x
  | [], _, _ => Nat.zero_le _
  | z :: L, x, h => by
    have ih := Chn.len hT hW (Chn.tail h)
    have hz := (Chn.tail h).slot
    have hn := (hT _ hz.1).1
    have := hz.2.2.1
    have hl := Chn.lex hW h z List.mem_cons_self
    simp only [List.length_cons]
    omega
theorem osm_le (hT : TOKA T) (hW : welA T) (ho : ∀ b, isB b → β 4 b 8 ≤ 40) : ∀ {L : List SL} {x : SL}, Chn T b0 (x :: L) → osm β g (x :: L) ≤ g + 40 * sF x + hlB β (sB x) (sP x)
  | [], x, _ => by
    have := hc_hl β (sB x) (sP x)
    simp only [osm]
    split <;> omega
  | z :: L, x, h => by
    have ih := osm_le hT hW ho (Chn.tail h)
    have hz := (Chn.tail h).slot
    have h1 := hc_hl β (sB x) (sP x)
    have hzl : hlB β (sB z) (sP z) ≤ 40 := by
      have := cnt_le (fun i => decide (β 49 (sB z) (2 + (i : Int)) ≤ (sP z : Nat))) (β 4 (sB z) 8).toNat
      have := ho _ hz.1
      unfold hlB; omega
    have hl := Chn.lex hW h z List.mem_cons_self
    have : osm β g (x :: z :: L) = osm β g (z :: L) + (if 1 ≤ sS x then hcB β (sB x) (sP x) else 0) := rfl
    rw [this]
    rcases hl with w | ⟨w1, w2, w3⟩
    · split <;> omega
    · have := hl_add β (sB x) w2
      rw [w3] at ih
      split <;> omega
theorem osm_522 (hT : TOKA T) (hW : welA T) (ho : ∀ b, isB b → β 4 b 8 ≤ 40) (hg : g ≤ 2) {L : List SL} (h : Chn T b0 L) : osm β g L ≤ 522 := by
  cases L with
  | nil => simp only [osm]; omega
  | cons x L =>
    have h1 := osm_le (g := g) hT hW ho h
    have h2 := h.slot
    have : hlB β (sB x) (sP x) ≤ 40 := by
      have := cnt_le (fun i => decide (β 49 (sB x) (2 + (i : Int)) ≤ (sP x : Nat))) (β 4 (sB x) 8).toNat
      have := ho _ h2.1
      unfold hlB; omega
    have := h2.2.1
    omega
/-- all parts around the top of a frame are under way -/
theorem Chn.anc (hW : welA T) : ∀ {L : List SL} {x : SL}, Chn T b0 (x :: L) → ∀ q : Nat, q < tN T (sB x) → nmA (tS T (sB x)) q = false → q ≤ sP x → sP x < enA (tN T (sB x)) (tS T (sB x)) q →
    ∃ y, y ∈ x :: L ∧ sB y = sB x ∧ sF y = sF x ∧ sP y = q ∧ (q < sP x → 1 ≤ sS y ∧ (c1A (tN T (sB x)) (tS T (sB x)) q ≤ sP x → sS y = 2))
  | [], x, h, q, hq, hm, h1, h2 => by
    have := h.2.2.2
    exact ⟨x, List.mem_cons_self, rfl, rfl, by omega, fun w => by omega⟩
  | z :: L, x, h, q, hq, hm, h1, h2 => by
    rcases Nat.eq_or_lt_of_le h1 with e | e
    · exact ⟨x, List.mem_cons_self, rfl, rfl, e.symm, fun w => by omega⟩
    have hz := (Chn.tail h).slot
    rcases h.2.1 with k | k
    · obtain ⟨i, k1, k2, k3⟩ := kid_of hW hz k
      obtain ⟨kb, kf, -⟩ := k
      have hg := (hW _ hz.1).1
      have hx := h.slot
      rw [kb] at hq hm h2 ⊢
      have kl := kid_lt hg hz.2.2.1 hz.2.2.2.1 k1
      have hpar := par_kid hg hz.2.2.1 hz.2.2.2.1 k1
      have hqz : q ≤ sP z := by
        rcases last_spec (fun p => !nmA (tS T (sB z)) p && decide (sP x < enA (tN T (sB z)) (tS T (sB z)) p)) (sP x) with ⟨w, _⟩ | ⟨y, w1, w2, w3, w4⟩
        · unfold parA at hpar; omega
        · unfold parA at hpar
          have : y = sP z := by omega
          subst this
          rcases Nat.lt_or_ge (sP z) q with u | u
          · have := w4 q u e
            rw [hm] at this
            simp at this
            omega
          · exact u
      obtain ⟨y, y1, y2, y3, y4, y5⟩ := Chn.anc hW (Chn.tail h) q hq hm hqz (by omega)
      refine ⟨y, List.mem_cons_of_mem _ y1, y2, by rw [y3, kf], y4, fun _ => ?_⟩
      rcases Nat.eq_or_lt_of_le hqz with u | u
      · -- y is z itself
        have hyz : sS y = sS z := by
          rcases List.mem_cons.mp y1 with w | w
          · rw [w]
          · have := Chn.lex hW (Chn.tail h) y w; omega
        rw [hyz]
        refine ⟨k2, fun hc => k3 fun hi => ?_⟩
        subst hi
        obtain ⟨_, w | w | w⟩ := k1
        · have k1' := kid1 hg hz.2.2.1 hz.2.2.2.1 (hz.2.2.2.2.2.1 k2)
          rw [u] at hc
          omega
        · omega
        · omega
      · obtain ⟨v1, v2⟩ := y5 u
        refine ⟨v1, fun hc => v2 ?_⟩
        rcases Nat.lt_or_ge (sP z) (c1A (tN T (sB z)) (tS T (sB z)) q) with w | w
        · exfalso
          have hin : 1 ≤ inn (kos (tS T (sB z) q)) := by
            rcases (show inn (kos (tS T (sB z) q)) = 0 ∨ 1 ≤ inn (kos (tS T (sB z) q)) by have := inn_rng (kos (tS T (sB z) q)); omega) with v | v
            · have := kids0 hg hq hm v; omega
            · exact v
          have k1' := kid1 hg hq hm hin
          have c0s := c0_spec hg hq hm
          rcases in_kid hg hq hm u (by omega) hz.2.2.2.1 with ⟨a1, a2, a3⟩ | ⟨a1, a2, a3⟩ | ⟨a1, a2, a3⟩
          · have : enA (tN T (sB z)) (tS T (sB z)) (sP z) ≤ c1A (tN T (sB z)) (tS T (sB z)) q := by
              rcases Nat.eq_or_lt_of_le a2 with v | v
              · rw [← v]; exact Nat.le_refl _
              · exact nest hg k1'.1 v a3
            omega
          · omega
          · have := kid2 hg hq hm (by omega); omega
        · exact w
    · omega
/-- what the result's kind must be -/
def exK (T : TP) (b0 : Int) : List SL → Int
  | [] => tV T b0
  | y :: _ => if sS y = 1 then kdA T (sB y) (c0A (tS T (sB y)) (sP y)) else if sK T y = 6 then 0 else kdA T (sB y) (sP y)
theorem kind_up (hT : TOKA T) (hW : welA T) {x : SL} {L : List SL} (h : Chn T b0 (x :: L)) : exK T b0 L = kdA T (sB x) (sP x) := by
  cases L with
  | nil =>
    obtain ⟨h1, h2, h3, h4⟩ := h
    show tV T b0 = _
    rw [h4, ← h2]
    exact (wel_0 hW h1.1).symm
  | cons y L =>
    have hy := (Chn.tail h).slot
    have hx := h.slot
    have hg := (hW _ hy.1).1
    have hk := kd_eq hg hy.2.2.1 hy.2.2.2.1
    have hB := wel_B hW hy.1 hy.2.2.1 hy.2.2.2.1
    rcases h.2.1 with ⟨k1, k2, ⟨a, c⟩ | ⟨a, k, c⟩ | ⟨a, k, c⟩⟩ | ⟨k1, k2, k3, k4, k5⟩
    · show (if sS y = 1 then _ else _) = _
      rw [if_pos a, k1, c]
    · show (if sS y = 1 then _ else _) = _
      rw [if_neg (by omega)]
      rcases k with k | k
      · rw [if_pos k, k1, c]
        have k' : kos (tS T (sB y) (sP y)) = 6 := k
        unfold illB at hB
        rw [if_neg (by omega), if_neg (by omega), if_neg (by omega), if_pos k', Bool.or_eq_false_iff] at hB
        have h2 := hB.2
        simp only [decide_eq_false_iff_not] at h2
        have := kd01 hT hy.1 hg (kid2 hg hy.2.2.1 hy.2.2.2.1 (by rw [k']; decide)).1 (kid1 hg hy.2.2.1 hy.2.2.2.1 (by rw [k']; decide)).2.2.2.2.1
        omega
      · have k' : kos (tS T (sB y) (sP y)) = 8 := k
        rw [if_neg (by rw [show sK T y = 8 from k]; decide), k1, c, hk, if_neg (by omega), if_neg (by omega), if_neg (by omega), if_pos (Or.inr k')]
    · have k' : kos (tS T (sB y) (sP y)) = 7 := k
      show (if sS y = 1 then _ else _) = _
      rw [if_neg (by omega), if_neg (by rw [show sK T y = 7 from k]; decide), k1, hk, if_neg (by omega), if_neg (by omega), if_neg (by omega), if_pos (Or.inl k')]
      unfold illB at hB
      rw [if_neg (by omega), if_neg (by omega), if_neg (by omega), if_neg (by omega), if_pos k', Bool.or_eq_false_iff] at hB
      have h2 := hB.2
      simp only [decide_eq_false_iff_not] at h2
      rcases c with c | c
      · rw [c]
      · rw [c]; exact Classical.byContradiction h2
    · have k' : kos (tS T (sB y) (sP y)) = 9 := k3
      show (if sS y = 1 then _ else _) = _
      rw [if_neg (by omega), if_neg (by rw [show sK T y = 9 from k3]; decide), k2, hk, if_neg (by omega), if_neg (by omega), if_pos k', wel_0 hW hx.1, k5]
/-- how many calls are under way in the model -/
def clK (T : TP) : List SL → Int
  | [] => 1
  | x :: _ => (sF x : Int) + 1 + (if sS x = 2 ∧ sK T x = 9 then 1 else 0)
theorem calls_up {x : SL} {L : List SL} (h : Chn T b0 (x :: L)) : clK T L = (sF x : Int) + 1 := by
  cases L with
  | nil =>
    have := h.2.2.1
    show (1 : Int) = _
    omega
  | cons y L =>
    show (sF y : Int) + 1 + (if sS y = 2 ∧ sK T y = 9 then 1 else 0) = _
    rcases h.2.1 with ⟨k1, k2, ⟨a, c⟩ | ⟨a, k, c⟩ | ⟨a, k, c⟩⟩ | ⟨k1, k2, k3, k4, k5⟩
    · rw [if_neg (by omega)]; omega
    · rw [if_neg (by omega)]; omega
    · rw [if_neg (by omega)]; omega
    · rw [if_pos ⟨k4, k3⟩]; omega
end CHN
/-- a value of kind k -/
def vkA (k v m : Int) : Prop := (k = 1 ∧ 0 ≤ v ∧ v < m) ∨ (k ≠ 1 ∧ 0 ≤ v ∧ v ≤ 999)
theorem vkA.mono {k v m m' : Int} (h : vkA k v m) (hm : m ≤ m') : vkA k v m' := by
  rcases h with ⟨a, b, c⟩ | ⟨a, b, c⟩
  · exact Or.inl ⟨a, b, by omega⟩
  · exact Or.inr ⟨a, b, c⟩
/-- what the class's heap holds of a slot, L lying below it -/
def slF (T : TP) (β : SS) (g : Nat) (σ : SS) (x : SL) (L : List SL) : Prop :=
  σ 52 0 L.length = sF x ∧ σ 50 0 L.length = sP x ∧ σ 51 0 L.length = sS x ∧ σ 54 0 (sF x) = sB x ∧ vkA (tG T (sB x)) (σ 55 0 (sF x)) (σ 32 0 6) ∧
  (sS x = 2 → sK T x = 8 → vkA (kdA T (sB x) (c0A (tS T (sB x)) (sP x))) (σ 56 0 (40 * (sF x : Int) + sP x)) (σ 32 0 6)) ∧
  (sS x = 2 → sK T x = 6 → 0 ≤ σ 53 0 L.length ∧ σ 53 0 L.length ≤ 999) ∧
  (tG T (sB x) = 1 → 0 ≤ σ 57 0 (42 * (sF x : Int)) ∧ σ 57 0 (42 * (sF x : Int)) < osm β g L) ∧
  (tV T (sB x) = 1 → β 4 (sB x) 6 = 0 → 0 ≤ σ 57 0 (42 * (sF x : Int) + 1) ∧ σ 57 0 (42 * (sF x : Int) + 1) < osm β g L) ∧
  (1 ≤ sS x → ∀ r : Int, 2 ≤ r → r < 2 + β 4 (sB x) 8 → β 49 (sB x) r = sP x → 0 ≤ σ 57 0 (42 * (sF x : Int) + r) ∧ σ 57 0 (42 * (sF x : Int) + r) < osm β g (x :: L))
def SKA (T : TP) (β : SS) (g : Nat) (σ : SS) : List SL → Prop
  | [] => True
  | x :: L => slF T β g σ x L ∧ SKA T β g σ L
/-- cells of these slots are as they were -/
def AgC (β : SS) (σ σ' : SS) (L : List SL) : Prop := σ 32 0 6 ≤ σ' 32 0 6 ∧ (∀ i : Nat, i < L.length → σ' 52 0 i = σ 52 0 i ∧ σ' 50 0 i = σ 50 0 i ∧ σ' 51 0 i = σ 51 0 i ∧ σ' 53 0 i = σ 53 0 i) ∧
  ∀ y, y ∈ L → σ' 54 0 (sF y) = σ 54 0 (sF y) ∧ σ' 55 0 (sF y) = σ 55 0 (sF y) ∧ σ' 56 0 (40 * (sF y : Int) + sP y) = σ 56 0 (40 * (sF y : Int) + sP y) ∧ ∀ r : Int, 0 ≤ r → r < 42 → (r < 2 ∨ β 49 (sB y) r = sP y) → σ' 57 0 (42 * (sF y : Int) + r) = σ 57 0 (42 * (sF y : Int) + r)
theorem AgC.tail {β σ σ' : SS} {x : SL} {L : List SL} (h : AgC β σ σ' (x :: L)) : AgC β σ σ' L := ⟨h.1, fun i hi => h.2.1 i (by simp; omega), fun y hy => h.2.2 y (List.mem_cons_of_mem _ hy)⟩
theorem slF.cong {T : TP} {β : SS} {g : Nat} {σ σ' : SS} {x : SL} {L : List SL} (ho : β 4 (sB x) 8 ≤ 40) (h : slF T β g σ x L) (ha : AgC β σ σ' (x :: L)) : slF T β g σ' x L := by
  obtain ⟨a1, a2, a3⟩ := ha
  obtain ⟨c1, c2, c3, c4⟩ := a2 L.length (by simp)
  obtain ⟨e1, e2, e3, e4⟩ := a3 x List.mem_cons_self
  obtain ⟨h1, h2, h3, h4, h5, h6, h7, h8, h9, h10⟩ := h
  have r0 : σ' 57 0 (42 * (sF x : Int)) = σ 57 0 (42 * (sF x : Int)) := by have := e4 0 (by omega) (by omega) (Or.inl (by omega)); simpa using this
  refine ⟨by rw [c1]; exact h1, by rw [c2]; exact h2, by rw [c3]; exact h3, by rw [e1]; exact h4, by rw [e2]; exact h5.mono a1, fun q w => by rw [e3]; exact (h6 q w).mono a1, fun q w => by rw [c4]; exact h7 q w, fun q => by rw [r0]; exact h8 q, fun q w => by rw [e4 1 (by omega) (by omega) (Or.inl (by omega))]; exact h9 q w, fun q r r1 r2 r3 => by rw [e4 r (by omega) (by omega) (Or.inr r3)]; exact h10 q r r1 r2 r3⟩
theorem SKA.cong {T : TP} {b0 : Int} {β : SS} {g : Nat} {σ σ' : SS} (ho : ∀ b, isB b → β 4 b 8 ≤ 40) : ∀ {L : List SL}, Chn T b0 L → SKA T β g σ L → AgC β σ σ' L → SKA T β g σ' L
  | [], _, _, _ => trivial
  | x :: L, hc, h, ha => ⟨h.1.cong (ho _ hc.slot.1) ha, SKA.cong ho hc.tail h.2 ha.tail⟩
/-- what the model's heap holds of a slot -/
def mlF (T : TP) (β σ τ : SS) (x : SL) (L : List SL) : Prop :=
  τ 78 0 L.length = sF x ∧ τ 79 0 L.length = 40 * sB x + sP x ∧ (sS x = 0 → τ 80 0 L.length = 0) ∧ (sS x = 1 → τ 80 0 L.length = 1) ∧ (sS x = 2 → sK T x = 6 → τ 80 0 L.length = 2 ∧ τ 81 0 L.length = σ 53 0 L.length) ∧ (sS x = 2 → sK T x ≠ 6 → τ 80 0 L.length = 3) ∧
  τ 82 0 (sF x) = sB x ∧ τ 83 0 (sF x) = σ 55 0 (sF x) + tG T (sB x) ∧
  (sS x = 2 → sK T x = 8 → τ 84 0 (40 * (sF x : Int) + sP x) = σ 56 0 (40 * (sF x : Int) + sP x) + kdA T (sB x) (c0A (tS T (sB x)) (sP x))) ∧
  (tG T (sB x) = 1 → τ 85 0 (44 * (sF x : Int)) = σ 57 0 (42 * (sF x : Int))) ∧ (tV T (sB x) = 1 → β 4 (sB x) 6 = 0 → τ 85 0 (44 * (sF x : Int) + 1) = σ 57 0 (42 * (sF x : Int) + 1)) ∧
  (1 ≤ sS x → ∀ r : Int, 2 ≤ r → r < 2 + β 4 (sB x) 8 → β 49 (sB x) r = sP x → τ 85 0 (44 * (sF x : Int) + r) = σ 57 0 (42 * (sF x : Int) + r))
def MKA (T : TP) (β σ τ : SS) : List SL → Prop
  | [] => True
  | x :: L => mlF T β σ τ x L ∧ MKA T β σ τ L
def AgM (β : SS) (τ τ' : SS) (L : List SL) : Prop := (∀ i : Nat, i < L.length → τ' 78 0 i = τ 78 0 i ∧ τ' 79 0 i = τ 79 0 i ∧ τ' 80 0 i = τ 80 0 i ∧ τ' 81 0 i = τ 81 0 i) ∧
  ∀ y, y ∈ L → τ' 82 0 (sF y) = τ 82 0 (sF y) ∧ τ' 83 0 (sF y) = τ 83 0 (sF y) ∧ τ' 84 0 (40 * (sF y : Int) + sP y) = τ 84 0 (40 * (sF y : Int) + sP y) ∧ ∀ r : Int, 0 ≤ r → r < 42 → (r < 2 ∨ β 49 (sB y) r = sP y) → τ' 85 0 (44 * (sF y : Int) + r) = τ 85 0 (44 * (sF y : Int) + r)
theorem AgM.tail {β τ τ' : SS} {x : SL} {L : List SL} (h : AgM β τ τ' (x :: L)) : AgM β τ τ' L := ⟨fun i hi => h.1 i (by simp; omega), fun y hy => h.2 y (List.mem_cons_of_mem _ hy)⟩
theorem mlF.cong {T : TP} {β σ σ' τ τ' : SS} {x : SL} {L : List SL} (ho : β 4 (sB x) 8 ≤ 40) (h : mlF T β σ τ x L) (ha : AgC β σ σ' (x :: L)) (hm : AgM β τ τ' (x :: L)) : mlF T β σ' τ' x L := by
  obtain ⟨a1, a2, a3⟩ := ha
  obtain ⟨c1, c2, c3, c4⟩ := a2 L.length (by simp)
  obtain ⟨e1, e2, e3, e4⟩ := a3 x List.mem_cons_self
  obtain ⟨m1, m2⟩ := hm
  obtain ⟨d1, d2, d3, d4⟩ := m1 L.length (by simp)
  obtain ⟨f1, f2, f3, f4⟩ := m2 x List.mem_cons_self
  have r0 : σ' 57 0 (42 * (sF x : Int)) = σ 57 0 (42 * (sF x : Int)) := by have := e4 0 (by omega) (by omega) (Or.inl (by omega)); simpa using this
  have s0 : τ' 85 0 (44 * (sF x : Int)) = τ 85 0 (44 * (sF x : Int)) := by have := f4 0 (by omega) (by omega) (Or.inl (by omega)); simpa using this
  obtain ⟨h1, h2, h3, h4, h5, h6, h7, h8, h9, h10, h11, h12⟩ := h
  refine ⟨by rw [d1]; exact h1, by rw [d2]; exact h2, fun q => by rw [d3]; exact h3 q, fun q => by rw [d3]; exact h4 q, fun q w => by rw [d3, d4, c4]; exact h5 q w, fun q w => by rw [d3]; exact h6 q w, by rw [f1]; exact h7, by rw [f2, e2]; exact h8, fun q w => by rw [f3, e3]; exact h9 q w, fun q => by rw [s0, r0]; exact h10 q, fun q w => by rw [f4 1 (by omega) (by omega) (Or.inl (by omega)), e4 1 (by omega) (by omega) (Or.inl (by omega))]; exact h11 q w, fun q r r1 r2 r3 => by rw [f4 r (by omega) (by omega) (Or.inr r3), e4 r (by omega) (by omega) (Or.inr r3)]; exact h12 q r r1 r2 r3⟩
theorem MKA.cong {T : TP} {b0 : Int} {β σ σ' τ τ' : SS} (ho : ∀ b, isB b → β 4 b 8 ≤ 40) : ∀ {L : List SL}, Chn T b0 L → MKA T β σ τ L → AgC β σ σ' L → AgM β τ τ' L → MKA T β σ' τ' L
  | [], _, _, _, _ => trivial
  | x :: L, hc, h, ha, hm => ⟨h.1.cong (ho _ hc.slot.1) ha hm, MKA.cong ho hc.tail h.2 ha.tail hm.tail⟩
