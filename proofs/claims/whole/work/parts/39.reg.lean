/-! ===== regions, without any heap ===== -/
/-- the least equivalence over E -/
def ClA (E : Nat → Nat → Prop) (x y : Nat) : Prop := ∀ R : Nat → Nat → Prop, (∀ a, R a a) → (∀ a b, R a b → R b a) → (∀ a b c, R a b → R b c → R a c) → (∀ a b, E a b → R a b) → R x y
theorem ClA.rf {E : Nat → Nat → Prop} (x : Nat) : ClA E x x := fun _ h _ _ _ => h x
theorem ClA.sy {E : Nat → Nat → Prop} {x y : Nat} (h : ClA E x y) : ClA E y x := fun R h1 h2 h3 h4 => h2 _ _ (h R h1 h2 h3 h4)
theorem ClA.tr {E : Nat → Nat → Prop} {x y z : Nat} (h : ClA E x y) (h' : ClA E y z) : ClA E x z := fun R h1 h2 h3 h4 => h3 _ _ _ (h R h1 h2 h3 h4) (h' R h1 h2 h3 h4)
theorem ClA.of {E : Nat → Nat → Prop} {x y : Nat} (h : E x y) : ClA E x y := fun _ _ _ _ h4 => h4 _ _ h
theorem ClA.mono {E E' : Nat → Nat → Prop} (hm : ∀ a b, E a b → E' a b) {x y : Nat} (h : ClA E x y) : ClA E' x y := fun R h1 h2 h3 h4 => h R h1 h2 h3 fun a b q => h4 a b (hm a b q)
/-- equal labels: the same class -/
def EqL (f : Nat → Int) (E : Nat → Nat → Prop) : Prop := ∀ x y, x < 42 → y < 42 → (f x = f y ↔ ClA E x y)
theorem EqL.cong {f : Nat → Int} {E E' : Nat → Nat → Prop} (h : EqL f E) (h1 : ∀ a b, E a b → E' a b) (h2 : ∀ a b, E' a b → E a b) : EqL f E' := fun x y hx hy => (h x y hx hy).trans ⟨ClA.mono h1, ClA.mono h2⟩
theorem EqL.cong2 {f f' : Nat → Int} {E : Nat → Nat → Prop} (h : EqL f E) (h1 : ∀ x, x < 42 → f' x = f x) : EqL f' E := fun x y hx hy => by rw [h1 x hx, h1 y hy]; exact h x y hx hy
theorem EqL.init : EqL (fun x => (x : Int)) (fun _ _ => False) := fun x y _ _ => ⟨fun q => by
  have : x = y := by
    have q' : (x : Int) = (y : Int) := q
    omega
  subst this; exact ClA.rf x, fun q => by
  have : x = y := q (fun a b => a = b) (fun _ => rfl) (fun _ _ h => h.symm) (fun _ _ _ h h' => h.trans h') (fun _ _ h => h.elim)
  rw [this]⟩
/-- c's class takes a's label -/
theorem EqL.add {f f' : Nat → Int} {E : Nat → Nat → Prop} (h : EqL f E) (hE : ∀ a b, E a b → a < 42 ∧ b < 42) {a c : Nat} (ha : a < 42) (hc : c < 42) (hf : ∀ x, x < 42 → f' x = if f x = f c then f a else f x) : EqL f' (fun x y => E x y ∨ (x = a ∧ y = c) ∨ (x = c ∧ y = a)) := by
  intro x y hx hy
  have up : ∀ {x y}, ClA E x y → ClA (fun x y => E x y ∨ (x = a ∧ y = c) ∨ (x = c ∧ y = a)) x y := ClA.mono fun _ _ q => Or.inl q
  have hac : ClA (fun x y => E x y ∨ (x = a ∧ y = c) ∨ (x = c ∧ y = a)) a c := ClA.of (Or.inr (Or.inl ⟨rfl, rfl⟩))
  constructor
  · intro q
    rw [hf x hx, hf y hy] at q
    split at q
    · rename_i q1
      have e1 := up ((h x c hx hc).mp q1)
      split at q
      · rename_i q2
        exact e1.tr (up ((h y c hy hc).mp q2)).sy
      · exact (e1.tr hac.sy).tr (up ((h a y ha hy).mp q))
    · split at q
      · rename_i q2
        exact (up ((h x a hx ha).mp q)).tr (hac.tr (up ((h y c hy hc).mp q2)).sy)
      · exact up ((h x y hx hy).mp q)
  · intro q
    have := q (fun x y => x = y ∨ (x < 42 ∧ y < 42 ∧ f' x = f' y)) (fun _ => Or.inl rfl) (fun u v w => by
      rcases w with w | ⟨w1, w2, w3⟩
      · exact Or.inl w.symm
      · exact Or.inr ⟨w2, w1, w3.symm⟩) (fun u v z w1 w2 => by
      rcases w1 with w1 | ⟨a1, a2, a3⟩
      · rw [w1]; exact w2
      · rcases w2 with w2 | ⟨b1, b2, b3⟩
        · rw [← w2]; exact Or.inr ⟨a1, a2, a3⟩
        · exact Or.inr ⟨a1, b2, a3.trans b3⟩) (fun u v w => by
      have key : f' a = f' c := by
        rw [hf a ha, hf c hc, if_pos rfl]
        split <;> rfl
      rcases w with w | ⟨rfl, rfl⟩ | ⟨rfl, rfl⟩
      · obtain ⟨hu, hv⟩ := hE u v w
        have := (h u v hu hv).mpr (ClA.of w)
        exact Or.inr ⟨hu, hv, by rw [hf u hu, hf v hv, this]⟩
      · exact Or.inr ⟨ha, hc, key⟩
      · exact Or.inr ⟨hc, ha, key.symm⟩)
    rcases this with w | w
    · rw [w]
    · exact w.2.2
/-- a part that is a box -/
def bxA (T : TP) (b : Int) (p : Nat) : Prop := p < tN T b ∧ nmA (tS T b) p = false ∧ kdA T b p = 1
/-- what a part is in one region with -/
def EdP (T : TP) (b : Int) (ps : Int → Int) (p y : Nat) : Prop := bxA T b p ∧ (
  (kos (tS T b p) = 1 ∧ y = 40) ∨ (kos (tS T b p) = 2 ∧ (y : Int) = c0A (tS T b) (bnA (tN T b) (tS T b) p).toNat) ∨
  (kos (tS T b p) = 7 ∧ (y = c1A (tN T b) (tS T b) p ∨ y = c2A (tN T b) (tS T b) p)) ∨ (kos (tS T b p) = 8 ∧ y = c1A (tN T b) (tS T b) p) ∨
  (kos (tS T b p) = 9 ∧ ps (ofA (tS T b) p) ≠ 0 ∧ y = c0A (tS T b) p) ∨ (p = 0 ∧ y = 41))
/-- both ways -/
def EdA (T : TP) (b : Int) (ps : Int → Int) (x y : Nat) : Prop := EdP T b ps x y ∨ EdP T b ps y x
def reA (T : TP) (b : Int) (ps : Int → Int) : Nat → Nat → Prop := ClA (EdA T b ps)
/-- well: no part is ill -/
theorem frst_none {f : Nat → Bool} : ∀ {m k : Nat}, frstA f m k = -6 → ∀ j, k ≤ j → j < k + m → f j = false
  | 0, k, _, j, h1, h2 => by omega
  | m + 1, k, h, j, h1, h2 => by
    simp only [frstA] at h
    split at h
    · omega
    · rename_i q
      rcases Nat.eq_or_lt_of_le h1 with e | e
      · subst e; simpa using q
      · exact frst_none h j e (by omega)
section WELL
variable {T : TP} {b : Int}
theorem wel_ill (hW : welA T) (hb : isB b) {p : Nat} (hp : p < tN T b) (hm : nmA (tS T b) p = false) : illA T b p = false := by
  have := frst_none (hW b hb).2 p (Nat.zero_le _) (by omega)
  simpa [hm] using this
theorem wel_B (hW : welA T) (hb : isB b) {p : Nat} (hp : p < tN T b) (hm : nmA (tS T b) p = false) : illB T b p = false := by
  have := wel_ill hW hb hp hm
  unfold illA at this
  rw [Bool.or_eq_false_iff] at this
  exact this.2
theorem wel_0 (hW : welA T) (hb : isB b) : kdA T b 0 = tV T b := by
  have hg := (hW b hb).1
  have := wel_ill hW hb (Good_n hg) rfl
  unfold illA at this
  rw [Bool.or_eq_false_iff] at this
  have h1 := this.1
  simpa using h1
/-- a letter is bound -/
theorem wel_let (hW : welA T) (hb : isB b) {p : Nat} (hp : p < tN T b) (hm : nmA (tS T b) p = false) (hk : kos (tS T b p) = 2) : ∃ q : Nat, bnA (tN T b) (tS T b) p = q ∧ q < p ∧ nmA (tS T b) q = false ∧ tS T b q = 108 ∧ c1A (tN T b) (tS T b) q ≤ p ∧ p < enA (tN T b) (tS T b) q := by
  have h1 := wel_B hW hb hp hm
  unfold illB at h1
  rw [if_pos hk] at h1
  rcases bn_spec (hW b hb).1 hp with q | ⟨q, q1, q2, q3, q4, q5, q6, q7⟩
  · rw [q] at h1; simp at h1
  · exact ⟨q, q1, q2, q3, q4, q6, q7⟩
theorem ed_lt (hT : TOKA T) (hW : welA T) (hb : isB b) {ps : Int → Int} {x y : Nat} (h : EdP T b ps x y) : x < 40 ∧ y < 42 ∧ (y ≠ 40 → y ≠ 41 → y < tN T b) ∧ (y = 40 → tG T b = 1) ∧ (y = 41 → tV T b = 1) := by
  obtain ⟨⟨h1, h2, h3⟩, h4⟩ := h
  have hn := (hT b hb).1
  have hg := (hW b hb).1
  have hk := kd_eq hg h1 h2
  rcases h4 with ⟨k, rfl⟩ | ⟨k, e⟩ | ⟨k, e⟩ | ⟨k, e⟩ | ⟨k, e1, e⟩ | ⟨k, rfl⟩
  · rw [if_neg (by omega), if_pos k] at hk
    exact ⟨by omega, by omega, by omega, by omega, by omega⟩
  · obtain ⟨q, q1, q2, q3, q4, q5, q6⟩ := wel_let hW hb h1 h2 k
    rw [q1, Int.toNat_natCast] at e
    have k1 := kid1 hg (show q < tN T b by omega) q3 (by rw [q4]; decide)
    exact ⟨by omega, by omega, by omega, by omega, by omega⟩
  · have k1 := kid2 hg h1 h2 (by rw [k]; decide)
    have k2 := kids3 hg h1 h2 (by rw [k]; decide)
    exact ⟨by omega, by omega, by omega, by omega, by omega⟩
  · have k1 := kid2 hg h1 h2 (by rw [k]; decide)
    exact ⟨by omega, by omega, by omega, by omega, by omega⟩
  · have k1 := kid1 hg h1 h2 (by rw [k]; decide)
    exact ⟨by omega, by omega, by omega, by omega, by omega⟩
  · have := wel_0 hW hb
    subst k
    exact ⟨by omega, by omega, by omega, by omega, by omega⟩
theorem ed_lt2 (hT : TOKA T) (hW : welA T) (hb : isB b) {ps : Int → Int} {x y : Nat} (h : EdA T b ps x y) : x < 42 ∧ y < 42 := by
  rcases h with h | h
  · have := ed_lt hT hW hb h; omega
  · have := ed_lt hT hW hb h; omega
/-- nothing is with P, if the body is given no box -/
theorem re_P (hT : TOKA T) (hW : welA T) (hb : isB b) {ps : Int → Int} (hG : tG T b ≠ 1) {x : Nat} (h : reA T b ps x 40) : x = 40 := by
  have := h (fun x y => (x = 40 ↔ y = 40)) (fun _ => Iff.rfl) (fun _ _ q => q.symm) (fun _ _ _ q1 q2 => q1.trans q2) (fun u v q => by
    rcases q with q | q
    · have := ed_lt hT hW hb q; omega
    · have := ed_lt hT hW hb q; omega)
  exact this.mpr rfl
theorem re_R (hT : TOKA T) (hW : welA T) (hb : isB b) {ps : Int → Int} (hV : tV T b ≠ 1) {x : Nat} (h : reA T b ps x 41) : x = 41 := by
  have := h (fun x y => (x = 41 ↔ y = 41)) (fun _ => Iff.rfl) (fun _ _ q => q.symm) (fun _ _ _ q1 q2 => q1.trans q2) (fun u v q => by
    rcases q with q | q
    · have := ed_lt hT hW hb q; omega
    · have := ed_lt hT hW hb q; omega)
  exact this.mpr rfl
theorem re_PR (hT : TOKA T) (hW : welA T) (hb : isB b) {ps : Int → Int} (h : reA T b ps 40 41) : tG T b = 1 ∧ tV T b = 1 := by
  constructor
  · by_cases q : tG T b = 1
    · exact q
    · have := re_P hT hW hb q (ClA.sy h); omega
  · by_cases q : tV T b = 1
    · exact q
    · have := re_R hT hW hb q h; omega
end WELL
/-! passes: the least solution -/
def leP (p q : Int → Int) : Prop := ∀ b, isB b → p b = 1 → q b = 1
theorem ed_mono {T : TP} {b : Int} {p q : Int → Int} (hof : ∀ x, bxA T b x → kos (tS T b x) = 9 → isB (ofA (tS T b) x)) (h01 : ∀ b, isB b → p b = 0 ∨ p b = 1) (h : leP p q) {x y : Nat} (h1 : EdA T b p x y) : EdA T b q x y := by
  have key : ∀ {x y}, EdP T b p x y → EdP T b q x y := by
    intro x y h2
    refine ⟨h2.1, ?_⟩
    rcases h2.2 with k | k | k | k | ⟨k, e1, e⟩ | k
    · exact Or.inl k
    · exact Or.inr (Or.inl k)
    · exact Or.inr (Or.inr (Or.inl k))
    · exact Or.inr (Or.inr (Or.inr (Or.inl k)))
    · have hB := hof x h2.1 k
      have := h _ hB (by have := h01 _ hB; omega)
      exact Or.inr (Or.inr (Or.inr (Or.inr (Or.inl ⟨k, by omega, e⟩))))
    · exact Or.inr (Or.inr (Or.inr (Or.inr (Or.inr k))))
  rcases h1 with h1 | h1
  · exact Or.inl (key h1)
  · exact Or.inr (key h1)
theorem of_BB {T : TP} (hW : welA T) {b : Int} (hb : isB b) : ∀ x, bxA T b x → kos (tS T b x) = 9 → isB (ofA (tS T b) x) := fun _ h k => (of_B (hW b hb).1 h.1 h.2.1 (kos_9.mp k)).1
theorem re_mono {T : TP} (hW : welA T) {b : Int} (hb : isB b) {p q : Int → Int} (h01 : ∀ b, isB b → p b = 0 ∨ p b = 1) (h : leP p q) {x y : Nat} (h1 : reA T b p x y) : reA T b q x y := ClA.mono (fun _ _ => ed_mono (of_BB hW hb) h01 h) h1
theorem re_cong {T : TP} (hW : welA T) {b : Int} (hb : isB b) {p q : Int → Int} (h01 : ∀ b, isB b → p b = 0 ∨ p b = 1) (h : ∀ c, isB c → p c = q c) {x y : Nat} : reA T b p x y ↔ reA T b q x y :=
  ⟨re_mono hW hb h01 fun c hc e => by rw [← h c hc]; exact e, re_mono hW hb (fun c hc => by rw [← h c hc]; exact h01 c hc) fun c hc e => by rw [h c hc]; exact e⟩
/-- on the way up: nothing too much, all that is there stays -/
def PsUp (T : TP) (ps : Int → Int) : Prop := (∀ b, isB b → ps b = 0 ∨ ps b = 1) ∧ (∀ b, isB b → ps b = 1 → reA T b ps 40 41) ∧ (∀ q : Int → Int, (∀ b, isB b → q b = 0 ∨ q b = 1) → (∀ b, isB b → reA T b q 40 41 → q b = 1) → leP ps q)
def PsOK (T : TP) (ps : Int → Int) : Prop := PsUp T ps ∧ ∀ b, isB b → reA T b ps 40 41 → ps b = 1
theorem PsOK_uniq {T : TP} {p q : Int → Int} (h1 : PsOK T p) (h2 : PsOK T q) : ∀ b, isB b → p b = q b := by
  intro b hb
  have a := h1.1.2.2 q h2.1.1 h2.2 b hb
  have c := h2.1.2.2 p h1.1.1 h1.2 b hb
  have a0 := h1.1.1 b hb
  have c0 := h2.1.1 b hb
  omega
def setP (ps : Int → Int) (b v : Int) : Int → Int := fun c => if c = b then v else ps c
theorem PsUp_0 {T : TP} : PsUp T (fun _ => 0) := ⟨fun _ _ => Or.inl rfl, fun _ _ h => absurd (show (0 : Int) = 1 from h) (by decide), fun _ _ _ _ _ h => absurd (show (0 : Int) = 1 from h) (by decide)⟩
/-- one body's turn; the classes may have been found with fewer passes -/
theorem PsUp_set {T : TP} (hW : welA T) {ps p0 : Int → Int} (h : PsUp T ps) (h0 : PsUp T p0) (hle : leP p0 ps) {b v : Int} (hb : isB b) (hv : (v = 1 ∧ reA T b p0 40 41) ∨ (v = 0 ∧ ¬ reA T b p0 40 41)) (hk : ps b = 1 → p0 b = 1) : PsUp T (setP ps b v) ∧ leP ps (setP ps b v) := by
  have hle2 : leP ps (setP ps b v) := by
    intro c hc e
    unfold setP
    by_cases q : c = b
    · rw [if_pos q]
      subst q
      have := h0.2.1 c hc (hk e)
      rcases hv with w | w
      · exact w.1
      · exact absurd this w.2
    · rw [if_neg q]; exact e
  refine ⟨⟨fun c hc => ?_, fun c hc e => ?_, fun q q1 q2 c hc e => ?_⟩, hle2⟩
  · unfold setP; split
    · rcases hv with w | w
      · exact Or.inr w.1
      · exact Or.inl w.1
    · exact h.1 c hc
  · unfold setP at e
    split at e
    · rename_i z
      subst z
      rcases hv with w | w
      · exact re_mono hW hc h.1 hle2 (re_mono hW hc h0.1 hle w.2)
      · omega
    · exact re_mono hW hc h.1 hle2 (h.2.1 c hc e)
  · unfold setP at e
    split at e
    · rename_i z
      subst z
      rcases hv with w | w
      · exact q2 c hc (re_mono hW hc h0.1 (h0.2.2 q q1 q2) w.2)
      · omega
    · exact h.2.2 q q1 q2 c hc e
/-! numbers -/
def NuOK (T : TP) (b : Int) (ps : Int → Int) (nu : Nat → Int) (ow : Int) : Prop := ∃ c : Nat → Int, c 0 = 0 ∧ ow = c (tN T b) ∧ ∀ p, p < tN T b →
  (¬ bxA T b p → nu p = -6 ∧ c (p + 1) = c p) ∧
  (bxA T b p → reA T b ps p 40 → nu p = 0 ∧ c (p + 1) = c p) ∧
  (bxA T b p → ¬ reA T b ps p 40 → reA T b ps p 41 → nu p = 1 ∧ c (p + 1) = c p) ∧
  (bxA T b p → ¬ reA T b ps p 40 → ¬ reA T b ps p 41 → (∀ q, q < p → bxA T b q → reA T b ps q p → nu p = nu q ∧ c (p + 1) = c p) ∧ ((∀ q, q < p → bxA T b q → ¬ reA T b ps q p) → nu p = 2 + c p ∧ c (p + 1) = c p + 1))
theorem em (p : Prop) : p ∨ ¬ p := Classical.em p
theorem NuOK_uniq {T : TP} {b : Int} {p q : Int → Int} {nu nu' : Nat → Int} {ow ow' : Int} (hpq : ∀ x y, reA T b p x y ↔ reA T b q x y) (h1 : NuOK T b p nu ow) (h2 : NuOK T b q nu' ow') : ow = ow' ∧ ∀ k, k < tN T b → nu k = nu' k := by
  obtain ⟨c, c0, c1, c2⟩ := h1
  obtain ⟨e, e0, e1, e2⟩ := h2
  have key : ∀ k, k ≤ tN T b → c k = e k ∧ ∀ j, j < k → nu j = nu' j := by
    intro k
    induction k with
    | zero => intro _; exact ⟨by rw [c0, e0], fun j hj => by omega⟩
    | succ k ih =>
      intro hk
      obtain ⟨i1, i2⟩ := ih (by omega)
      obtain ⟨a1, a2, a3, a4⟩ := c2 k (by omega)
      obtain ⟨f1, f2, f3, f4⟩ := e2 k (by omega)
      have both : c (k + 1) = e (k + 1) ∧ nu k = nu' k := by
        rcases em (bxA T b k) with x | x
        · rcases em (reA T b p k 40) with y | y
          · have z1 := a2 x y; have z2 := f2 x ((hpq _ _).mp y); exact ⟨by omega, by omega⟩
          · have y' : ¬ reA T b q k 40 := fun w => y ((hpq _ _).mpr w)
            rcases em (reA T b p k 41) with z | z
            · have z1 := a3 x y z; have z2 := f3 x y' ((hpq _ _).mp z); exact ⟨by omega, by omega⟩
            · have z' : ¬ reA T b q k 41 := fun w => z ((hpq _ _).mpr w)
              rcases em (∃ r, r < k ∧ bxA T b r ∧ reA T b p r k) with ⟨r, r1, r2, r3⟩ | w
              · have z1 := (a4 x y z).1 r r1 r2 r3
                have z2 := (f4 x y' z').1 r r1 r2 ((hpq _ _).mp r3)
                have := i2 r r1
                exact ⟨by omega, by omega⟩
              · have z1 := (a4 x y z).2 fun r r1 r2 r3 => w ⟨r, r1, r2, r3⟩
                have z2 := (f4 x y' z').2 fun r r1 r2 r3 => w ⟨r, r1, r2, (hpq _ _).mpr r3⟩
                exact ⟨by omega, by omega⟩
        · have z1 := a1 x; have z2 := f1 x; exact ⟨by omega, by omega⟩
      refine ⟨both.1, fun j hj => ?_⟩
      rcases Nat.eq_or_lt_of_le (Nat.le_of_lt_succ hj) with w | w
      · subst w; exact both.2
      · exact i2 j w
  obtain ⟨k1, k2⟩ := key _ (Nat.le_refl _)
  exact ⟨by rw [c1, e1, k1], k2⟩
/-- what numbers are -/
theorem NuOK_facts {T : TP} {b : Int} {ps : Int → Int} {nu : Nat → Int} {ow : Int} (h : NuOK T b ps nu ow) : 0 ≤ ow ∧ ow ≤ tN T b ∧ (∀ p, p < tN T b → (nu p = -6 ∧ ¬ bxA T b p) ∨ (0 ≤ nu p ∧ nu p < 2 + ow ∧ bxA T b p ∧ (nu p = 0 ↔ reA T b ps p 40) ∧ (nu p = 1 → reA T b ps p 41 ∧ ¬ reA T b ps p 40) ∧ (reA T b ps p 41 → nu p = 0 ∨ nu p = 1))) ∧ (∀ r : Int, 2 ≤ r → r < 2 + ow → ∃ p, p < tN T b ∧ nu p = r) := by
  obtain ⟨c, c0, c1, c2⟩ := h
  have key : ∀ k, k ≤ tN T b → 0 ≤ c k ∧ c k ≤ k ∧ (∀ p, p < k → (nu p = -6 ∧ ¬ bxA T b p) ∨ (0 ≤ nu p ∧ nu p < 2 + c k ∧ bxA T b p ∧ (nu p = 0 ↔ reA T b ps p 40) ∧ (nu p = 1 → reA T b ps p 41 ∧ ¬ reA T b ps p 40) ∧ (reA T b ps p 41 → nu p = 0 ∨ nu p = 1))) ∧ (∀ r : Int, 2 ≤ r → r < 2 + c k → ∃ p, p < k ∧ nu p = r) := by
    intro k
    induction k with
    | zero => intro _; rw [c0]; exact ⟨by omega, by omega, fun p hp => by omega, fun r h1 h2 => by omega⟩
    | succ k ih =>
      intro hk
      obtain ⟨i1, i2, i3, i4⟩ := ih (by omega)
      obtain ⟨a1, a2, a3, a4⟩ := c2 k (by omega)
      have fin : ∀ (hc : (c (k + 1) = c k) ∨ (c (k + 1) = c k + 1 ∧ nu k = 2 + c k)) (hx : (nu k = -6 ∧ ¬ bxA T b k) ∨ (0 ≤ nu k ∧ nu k < 2 + c (k + 1) ∧ bxA T b k ∧ (nu k = 0 ↔ reA T b ps k 40) ∧ (nu k = 1 → reA T b ps k 41 ∧ ¬ reA T b ps k 40) ∧ (reA T b ps k 41 → nu k = 0 ∨ nu k = 1))), 0 ≤ c (k + 1) ∧ c (k + 1) ≤ ((k + 1 : Nat) : Int) ∧ (∀ p, p < k + 1 → (nu p = -6 ∧ ¬ bxA T b p) ∨ (0 ≤ nu p ∧ nu p < 2 + c (k + 1) ∧ bxA T b p ∧ (nu p = 0 ↔ reA T b ps p 40) ∧ (nu p = 1 → reA T b ps p 41 ∧ ¬ reA T b ps p 40) ∧ (reA T b ps p 41 → nu p = 0 ∨ nu p = 1))) ∧ (∀ r : Int, 2 ≤ r → r < 2 + c (k + 1) → ∃ p, p < k + 1 ∧ nu p = r) := by
        intro hc hx
        refine ⟨by omega, by omega, fun p hp => ?_, fun r h1 h2 => ?_⟩
        · rcases Nat.eq_or_lt_of_le (Nat.le_of_lt_succ hp) with w | w
          · subst w; exact hx
          · rcases i3 p w with y | ⟨y1, y2, y3⟩
            · exact Or.inl y
            · exact Or.inr ⟨y1, by omega, y3⟩
        · rcases hc with hc | ⟨hc, hc2⟩
          · obtain ⟨p, p1, p2⟩ := i4 r h1 (by omega)
            exact ⟨p, by omega, p2⟩
          · by_cases w : r = 2 + c k
            · exact ⟨k, by omega, by omega⟩
            · obtain ⟨p, p1, p2⟩ := i4 r h1 (by omega)
              exact ⟨p, by omega, p2⟩
      rcases em (bxA T b k) with x | x
      · rcases em (reA T b ps k 40) with y | y
        · obtain ⟨z1, z2⟩ := a2 x y
          exact fin (Or.inl z2) (Or.inr ⟨by omega, by omega, x, ⟨fun _ => y, fun _ => z1⟩, fun w => by omega, fun _ => Or.inl z1⟩)
        · rcases em (reA T b ps k 41) with z | z
          · obtain ⟨z1, z2⟩ := a3 x y z
            exact fin (Or.inl z2) (Or.inr ⟨by omega, by omega, x, ⟨fun w => by omega, fun w => absurd w y⟩, fun _ => ⟨z, y⟩, fun _ => Or.inr z1⟩)
          · rcases em (∃ r, r < k ∧ bxA T b r ∧ reA T b ps r k) with ⟨r, r1, r2, r3⟩ | w
            · obtain ⟨z1, z2⟩ := (a4 x y z).1 r r1 r2 r3
              rcases i3 r r1 with u | ⟨u1, u2, u3, u4, u5, u6⟩
              · exact absurd r2 u.2
              · have v0 : nu r ≠ 0 := fun v => y (ClA.tr (ClA.sy r3) (u4.mp v))
                have v1 : nu r ≠ 1 := fun v => z (ClA.tr (ClA.sy r3) (u5 v).1)
                exact fin (Or.inl z2) (Or.inr ⟨by omega, by omega, x, ⟨fun w => by omega, fun w => absurd w y⟩, fun w => by omega, fun w => absurd w z⟩)
            · obtain ⟨z1, z2⟩ := (a4 x y z).2 fun r r1 r2 r3 => w ⟨r, r1, r2, r3⟩
              exact fin (Or.inr ⟨z2, z1⟩) (Or.inr ⟨by omega, by omega, x, ⟨fun w => by omega, fun w => absurd w y⟩, fun w => by omega, fun w => absurd w z⟩)
      · obtain ⟨z1, z2⟩ := a1 x
        exact fin (Or.inl z2) (Or.inl ⟨z1, x⟩)
  obtain ⟨k1, k2, k3, k4⟩ := key _ (Nat.le_refl _)
  rw [← c1] at k1 k2 k3 k4
  exact ⟨k1, k2, k3, k4⟩
/-! touching, homes -/
def toA (T : TP) (b : Int) (nu : Nat → Int) (p : Nat) (r : Int) : Prop := nmA (tS T b) p = false ∧ (nu p = r ∨ ((kos (tS T b p) = 4 ∨ kos (tS T b p) = 9) ∧ nu (c0A (tS T b) p) = r))
def HmOK (T : TP) (b : Int) (nu : Nat → Int) (r : Int) (h : Nat) : Prop := h < tN T b ∧ nmA (tS T b) h = false ∧ (∀ t, t < tN T b → toA T b nu t r → h ≤ t ∧ t < enA (tN T b) (tS T b) h) ∧ (∀ h', h' < tN T b → nmA (tS T b) h' = false → (∀ t, t < tN T b → toA T b nu t r → h' ≤ t ∧ t < enA (tN T b) (tS T b) h') → h' ≤ h)
theorem HmOK_uniq {T : TP} {b : Int} {nu : Nat → Int} {r : Int} {h h' : Nat} (h1 : HmOK T b nu r h) (h2 : HmOK T b nu r h') : h = h' :=
  Nat.le_antisymm (h2.2.2.2 h h1.1 h1.2.1 h1.2.2.1) (h1.2.2.2 h' h2.1 h2.2.1 h2.2.2.1)
theorem toA_cong {T : TP} {b : Int} (hg : GoodA (tN T b) (tS T b)) {nu nu' : Nat → Int} (h : ∀ k, k < tN T b → nu k = nu' k) {p : Nat} {r : Int} (hp : p < tN T b) : toA T b nu p r ↔ toA T b nu' p r := by
  unfold toA
  rw [h p hp]
  constructor
  · rintro ⟨a, c | ⟨c, e⟩⟩
    · exact ⟨a, Or.inl c⟩
    · have hl : c0A (tS T b) p < tN T b := (kid1 hg hp a (by rcases c with c | c <;> rw [c] <;> decide)).1
      exact ⟨a, Or.inr ⟨c, by rw [← h _ hl]; exact e⟩⟩
  · rintro ⟨a, c | ⟨c, e⟩⟩
    · exact ⟨a, Or.inl c⟩
    · have hl : c0A (tS T b) p < tN T b := (kid1 hg hp a (by rcases c with c | c <;> rw [c] <;> decide)).1
      exact ⟨a, Or.inr ⟨c, by rw [h _ hl]; exact e⟩⟩
/-- numbers of the first k places -/
def NuTo (T : TP) (b : Int) (ps : Int → Int) (nu : Nat → Int) (ow : Int) (k : Nat) : Prop := ∃ c : Nat → Int, c 0 = 0 ∧ ow = c k ∧ ∀ p, p < k →
  (¬ bxA T b p → nu p = -6 ∧ c (p + 1) = c p) ∧
  (bxA T b p → reA T b ps p 40 → nu p = 0 ∧ c (p + 1) = c p) ∧
  (bxA T b p → ¬ reA T b ps p 40 → reA T b ps p 41 → nu p = 1 ∧ c (p + 1) = c p) ∧
  (bxA T b p → ¬ reA T b ps p 40 → ¬ reA T b ps p 41 → (∀ q, q < p → bxA T b q → reA T b ps q p → nu p = nu q ∧ c (p + 1) = c p) ∧ ((∀ q, q < p → bxA T b q → ¬ reA T b ps q p) → nu p = 2 + c p ∧ c (p + 1) = c p + 1))
theorem NuTo_same {T : TP} {b : Int} {ps : Int → Int} {nu : Nat → Int} {ow : Int} {k : Nat} (h : NuTo T b ps nu ow k) {q r x : Nat} (hq : q < k) (hr : r < k) (hbq : bxA T b q) (hbr : bxA T b r) (h1 : reA T b ps q x) (h2 : reA T b ps r x) (n0 : ¬ reA T b ps x 40) (n1 : ¬ reA T b ps x 41) : nu q = nu r := by
  obtain ⟨c, c0, c1, c2⟩ := h
  rcases Nat.lt_trichotomy q r with w | w | w
  · exact ((c2 r hr).2.2.2 hbr (fun z => n0 ((ClA.sy h2).tr z)) (fun z => n1 ((ClA.sy h2).tr z))).1 q w hbq (h1.tr (ClA.sy h2)) |>.1.symm
  · rw [w]
  · exact ((c2 q hq).2.2.2 hbq (fun z => n0 ((ClA.sy h1).tr z)) (fun z => n1 ((ClA.sy h1).tr z))).1 r w hbr (h2.tr (ClA.sy h1)) |>.1
theorem NuTo_step {T : TP} {b : Int} {ps : Int → Int} {nu nu' : Nat → Int} {ow ow' : Int} {k : Nat} (h : NuTo T b ps nu ow k) (hc : ∀ j, j < k → nu' j = nu j)
    (hs : (¬ bxA T b k ∧ nu' k = -6 ∧ ow' = ow) ∨ (bxA T b k ∧ reA T b ps k 40 ∧ nu' k = 0 ∧ ow' = ow) ∨ (bxA T b k ∧ ¬ reA T b ps k 40 ∧ reA T b ps k 41 ∧ nu' k = 1 ∧ ow' = ow) ∨
      (bxA T b k ∧ ¬ reA T b ps k 40 ∧ ¬ reA T b ps k 41 ∧ (∃ q, q < k ∧ bxA T b q ∧ reA T b ps q k ∧ nu' k = nu q) ∧ ow' = ow) ∨
      (bxA T b k ∧ ¬ reA T b ps k 40 ∧ ¬ reA T b ps k 41 ∧ (∀ q, q < k → bxA T b q → ¬ reA T b ps q k) ∧ nu' k = 2 + ow ∧ ow' = ow + 1)) : NuTo T b ps nu' ow' (k + 1) := by
  have hsame := @NuTo_same _ _ _ _ _ _ h
  obtain ⟨c, c0, c1, c2⟩ := h
  refine ⟨fun j => if j = k + 1 then ow' else c j, by simp [c0], by simp, fun p hp => ?_⟩
  rcases Nat.eq_or_lt_of_le (Nat.le_of_lt_succ hp) with w | w
  · subst w
    simp only [if_true, if_neg (show ¬ p = p + 1 by omega), ← c1]
    refine ⟨fun x => ?_, fun x y => ?_, fun x y z => ?_, fun x y z => ⟨fun q q1 q2 q3 => ?_, fun q => ?_⟩⟩
    · rcases hs with h | h | h | h | h
      · exact h.2
      all_goals exact absurd h.1 x
    · rcases hs with h | h | h | h | h
      · exact absurd x h.1
      · exact h.2.2
      all_goals exact absurd y h.2.1
    · rcases hs with h | h | h | h | h
      · exact absurd x h.1
      · exact absurd h.2.1 y
      · exact h.2.2.2
      all_goals exact absurd z h.2.2.1
    · rcases hs with h | h | h | h | h
      · exact absurd x h.1
      · exact absurd h.2.1 y
      · exact absurd h.2.2.1 z
      · obtain ⟨r, r1, r2, r3, r4⟩ := h.2.2.2.1
        rw [hc q q1, r4]
        exact ⟨hsame r1 q1 r2 q2 r3 q3 y z, h.2.2.2.2⟩
      · exact absurd q3 (h.2.2.2.1 q q1 q2)
    · rcases hs with h | h | h | h | h
      · exact absurd x h.1
      · exact absurd h.2.1 y
      · exact absurd h.2.2.1 z
      · obtain ⟨r, r1, r2, r3, r4⟩ := h.2.2.2.1
        exact absurd r3 (q r r1 r2)
      · exact h.2.2.2.2
  · simp only [if_neg (show ¬ p + 1 = k + 1 by omega), if_neg (show ¬ p = k + 1 by omega)]
    rw [hc p w]
    obtain ⟨a1, a2, a3, a4⟩ := c2 p w
    refine ⟨a1, a2, a3, fun x y z => ⟨fun q q1 q2 q3 => ?_, (a4 x y z).2⟩⟩
    rw [hc q (by omega)]
    exact (a4 x y z).1 q q1 q2 q3
