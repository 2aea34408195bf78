/-! ===== touching, effects: without any heap ===== -/
def toB (T : TP) (b : Int) (nu : Nat → Int) (p : Nat) (r : Int) : Bool := !nmA (tS T b) p && (decide (nu p = r) || ((decide (kos (tS T b p) = 4) || decide (kos (tS T b p) = 9)) && decide (nu (c0A (tS T b) p) = r)))
theorem toB_iff {T : TP} {b : Int} {nu : Nat → Int} {p : Nat} {r : Int} : toB T b nu p r = true ↔ toA T b nu p r := by
  unfold toB toA
  simp [Bool.and_eq_true, Bool.or_eq_true]
def btA (e : Int) (k : Nat) : Bool := decide (((e.toNat &&& k : Nat) : Int) ≠ 0)
/-- whether a part puts into a region (lk false), looks into it (lk true) -/
def doB (T : TP) (b : Int) (nu : Nat → Int) (ef : Int → Int) (p : Nat) (r : Int) (lk : Bool) : Bool :=
  !nmA (tS T b) p && (if kos (tS T b p) = (if lk = true then 4 else 3) then decide (nu (if lk = true then c0A (tS T b) p else p) = r)
    else if kos (tS T b p) = 9 then (btA (ef (ofA (tS T b) p)) (if lk = true then 2 else 1) && decide (nu (c0A (tS T b) p) = r)) || (btA (ef (ofA (tS T b) p)) (if lk = true then 8 else 4) && decide (nu p = r)) else false)
def anyA (f : Nat → Bool) : Nat → Bool
  | 0 => false
  | k + 1 => anyA f k || f k
theorem any_t {f : Nat → Bool} : ∀ {k : Nat}, anyA f k = true ↔ ∃ p, p < k ∧ f p = true
  | 0 => by simp [anyA]
  | k + 1 => by
    simp only [anyA, Bool.or_eq_true, any_t (k := k)]
    constructor
    · rintro (⟨p, h1, h2⟩ | h)
      · exact ⟨p, by omega, h2⟩
      · exact ⟨k, by omega, h⟩
    · rintro ⟨p, h1, h2⟩
      rcases Nat.eq_or_lt_of_le (Nat.le_of_lt_succ h1) with w | w
      · subst w; exact Or.inr h2
      · exact Or.inl ⟨p, w, h2⟩
def biA (x : Bool) : Int := if x = true then 1 else 0
def e4A (x1 x2 x3 x4 : Bool) : Int := biA x1 + 2 * biA x2 + 4 * biA x3 + 8 * biA x4
theorem e4_or1 (x1 x2 x3 x4 y : Bool) : ((((e4A x1 x2 x3 x4).toNat ||| (biA y).toNat : Nat)) : Int) = e4A (x1 || y) x2 x3 x4 := by cases x1 <;> cases x2 <;> cases x3 <;> cases x4 <;> cases y <;> decide
theorem e4_or2 (x1 x2 x3 x4 y : Bool) : ((((e4A x1 x2 x3 x4).toNat ||| (2 * biA y).toNat : Nat)) : Int) = e4A x1 (x2 || y) x3 x4 := by cases x1 <;> cases x2 <;> cases x3 <;> cases x4 <;> cases y <;> decide
theorem e4_or4 (x1 x2 x3 x4 y : Bool) : ((((e4A x1 x2 x3 x4).toNat ||| (4 * biA y).toNat : Nat)) : Int) = e4A x1 x2 (x3 || y) x4 := by cases x1 <;> cases x2 <;> cases x3 <;> cases x4 <;> cases y <;> decide
theorem e4_or8 (x1 x2 x3 x4 y : Bool) : ((((e4A x1 x2 x3 x4).toNat ||| (8 * biA y).toNat : Nat)) : Int) = e4A x1 x2 x3 (x4 || y) := by cases x1 <;> cases x2 <;> cases x3 <;> cases x4 <;> cases y <;> decide
theorem e4_bt (x1 x2 x3 x4 : Bool) : btA (e4A x1 x2 x3 x4) 1 = x1 ∧ btA (e4A x1 x2 x3 x4) 2 = x2 ∧ btA (e4A x1 x2 x3 x4) 4 = x3 ∧ btA (e4A x1 x2 x3 x4) 8 = x4 := by cases x1 <;> cases x2 <;> cases x3 <;> cases x4 <;> decide
theorem e4_rng (x1 x2 x3 x4 : Bool) : 0 ≤ e4A x1 x2 x3 x4 ∧ e4A x1 x2 x3 x4 ≤ 15 := by cases x1 <;> cases x2 <;> cases x3 <;> cases x4 <;> decide
/-- the four ways to put and to look of body b, by what is known of effects -/
def qA (T : TP) (b : Int) (nu : Nat → Int) (ps ef : Int → Int) (i : Nat) (p : Nat) : Bool := match i with
  | 0 => doB T b nu ef p 0 false
  | 1 => doB T b nu ef p 0 true
  | 2 => doB T b nu ef p (if ps b = 0 then 1 else 0) false
  | _ => doB T b nu ef p (if ps b = 0 then 1 else 0) true
def efK (T : TP) (b : Int) (nu : Nat → Int) (ps ef : Int → Int) (k : Nat) : Int := e4A (anyA (qA T b nu ps ef 0) k) (anyA (qA T b nu ps ef 1) k) (anyA (qA T b nu ps ef 2) k) (anyA (qA T b nu ps ef 3) k)
def efV (T : TP) (nu : Int → Nat → Int) (ps ef : Int → Int) (b : Int) : Int := efK T b (nu b) ps ef (tN T b)
def lbE (x y : Int) : Prop := (btA x 1 = true → btA y 1 = true) ∧ (btA x 2 = true → btA y 2 = true) ∧ (btA x 4 = true → btA y 4 = true) ∧ (btA x 8 = true → btA y 8 = true)
def leE (p q : Int → Int) : Prop := ∀ b, isB b → lbE (p b) (q b)
def V4 (x : Int) : Prop := ∃ x1 x2 x3 x4, x = e4A x1 x2 x3 x4
theorem lbE.tr {x y z : Int} (h : lbE x y) (h' : lbE y z) : lbE x z := ⟨fun q => h'.1 (h.1 q), fun q => h'.2.1 (h.2.1 q), fun q => h'.2.2.1 (h.2.2.1 q), fun q => h'.2.2.2 (h.2.2.2 q)⟩
theorem lbE.rf (x : Int) : lbE x x := ⟨id, id, id, id⟩
theorem lbE_anti {x y : Int} (hx : V4 x) (hy : V4 y) (h1 : lbE x y) (h2 : lbE y x) : x = y := by
  obtain ⟨x1, x2, x3, x4, rfl⟩ := hx
  obtain ⟨y1, y2, y3, y4, rfl⟩ := hy
  obtain ⟨a1, a2, a3, a4⟩ := e4_bt x1 x2 x3 x4
  obtain ⟨b1, b2, b3, b4⟩ := e4_bt y1 y2 y3 y4
  unfold lbE at h1 h2
  rw [a1, a2, a3, a4, b1, b2, b3, b4] at h1 h2
  have e1 : x1 = y1 := by cases x1 <;> cases y1 <;> simp_all
  have e2 : x2 = y2 := by cases x2 <;> cases y2 <;> simp_all
  have e3 : x3 = y3 := by cases x3 <;> cases y3 <;> simp_all
  have e4 : x4 = y4 := by cases x4 <;> cases y4 <;> simp_all
  rw [e1, e2, e3, e4]
theorem do_f {T : TP} {b : Int} {nu : Nat → Int} {ef : Int → Int} {p : Nat} {r : Int} : doB T b nu ef p r false = (!nmA (tS T b) p && (if kos (tS T b p) = 3 then decide (nu p = r) else if kos (tS T b p) = 9 then ((btA (ef (ofA (tS T b) p)) 1 && decide (nu (c0A (tS T b) p) = r)) || (btA (ef (ofA (tS T b) p)) 4 && decide (nu p = r))) else false)) := rfl
theorem do_t {T : TP} {b : Int} {nu : Nat → Int} {ef : Int → Int} {p : Nat} {r : Int} : doB T b nu ef p r true = (!nmA (tS T b) p && (if kos (tS T b p) = 4 then decide (nu (c0A (tS T b) p) = r) else if kos (tS T b p) = 9 then ((btA (ef (ofA (tS T b) p)) 2 && decide (nu (c0A (tS T b) p) = r)) || (btA (ef (ofA (tS T b) p)) 8 && decide (nu p = r))) else false)) := rfl
theorem do_mono {T : TP} {b : Int} {nu : Nat → Int} {e e' : Int → Int} {p : Nat} {r : Int} {lk : Bool} (hof : nmA (tS T b) p = false → kos (tS T b p) = 9 → isB (ofA (tS T b) p)) (h : leE e e') (h1 : doB T b nu e p r lk = true) : doB T b nu e' p r lk = true := by
  cases lk
  · rw [do_f] at h1 ⊢
    rw [Bool.and_eq_true] at h1 ⊢
    refine ⟨h1.1, ?_⟩
    have h2 := h1.2
    have hm : nmA (tS T b) p = false := by simpa using h1.1
    by_cases q : kos (tS T b p) = 3
    · rw [if_pos q] at h2 ⊢; exact h2
    rw [if_neg q] at h2 ⊢
    by_cases w : kos (tS T b p) = 9
    · rw [if_pos w] at h2 ⊢
      obtain ⟨l1, l2, l3, l4⟩ := h _ (hof hm w)
      rw [Bool.or_eq_true, Bool.and_eq_true, Bool.and_eq_true] at h2 ⊢
      rcases h2 with ⟨u, v⟩ | ⟨u, v⟩
      · exact Or.inl ⟨l1 u, v⟩
      · exact Or.inr ⟨l3 u, v⟩
    · rw [if_neg w] at h2; cases h2
  · rw [do_t] at h1 ⊢
    rw [Bool.and_eq_true] at h1 ⊢
    refine ⟨h1.1, ?_⟩
    have h2 := h1.2
    have hm : nmA (tS T b) p = false := by simpa using h1.1
    by_cases q : kos (tS T b p) = 4
    · rw [if_pos q] at h2 ⊢; exact h2
    rw [if_neg q] at h2 ⊢
    by_cases w : kos (tS T b p) = 9
    · rw [if_pos w] at h2 ⊢
      obtain ⟨l1, l2, l3, l4⟩ := h _ (hof hm w)
      rw [Bool.or_eq_true, Bool.and_eq_true, Bool.and_eq_true] at h2 ⊢
      rcases h2 with ⟨u, v⟩ | ⟨u, v⟩
      · exact Or.inl ⟨l2 u, v⟩
      · exact Or.inr ⟨l4 u, v⟩
    · rw [if_neg w] at h2; cases h2
theorem efV_mono {T : TP} (hW : welA T) {nu : Int → Nat → Int} {ps e e' : Int → Int} {b : Int} (hb : isB b) (h : leE e e') : lbE (efV T nu ps e b) (efV T nu ps e' b) := by
  unfold efV efK lbE
  obtain ⟨a1, a2, a3, a4⟩ := e4_bt (anyA (qA T b (nu b) ps e 0) (tN T b)) (anyA (qA T b (nu b) ps e 1) (tN T b)) (anyA (qA T b (nu b) ps e 2) (tN T b)) (anyA (qA T b (nu b) ps e 3) (tN T b))
  obtain ⟨b1, b2, b3, b4⟩ := e4_bt (anyA (qA T b (nu b) ps e' 0) (tN T b)) (anyA (qA T b (nu b) ps e' 1) (tN T b)) (anyA (qA T b (nu b) ps e' 2) (tN T b)) (anyA (qA T b (nu b) ps e' 3) (tN T b))
  rw [a1, a2, a3, a4, b1, b2, b3, b4]
  have hof : ∀ p, p < tN T b → nmA (tS T b) p = false → kos (tS T b p) = 9 → isB (ofA (tS T b) p) := fun p hp hm k => (of_B (hW b hb).1 hp hm (kos_9.mp k)).1
  refine ⟨fun q => ?_, fun q => ?_, fun q => ?_, fun q => ?_⟩
  all_goals
    obtain ⟨p, p1, p2⟩ := any_t.mp q
    exact any_t.mpr ⟨p, p1, do_mono (hof p p1) h p2⟩
theorem efV_V4 {T : TP} {nu : Int → Nat → Int} {ps e : Int → Int} {b : Int} : V4 (efV T nu ps e b) := ⟨_, _, _, _, rfl⟩
def EfUp (T : TP) (nu : Int → Nat → Int) (ps e : Int → Int) : Prop := (∀ b, isB b → V4 (e b)) ∧ (∀ b, isB b → lbE (e b) (efV T nu ps e b)) ∧ (∀ q : Int → Int, (∀ b, isB b → V4 (q b)) → (∀ b, isB b → lbE (efV T nu ps q b) (q b)) → leE e q)
def EfOK (T : TP) (nu : Int → Nat → Int) (ps e : Int → Int) : Prop := EfUp T nu ps e ∧ ∀ b, isB b → lbE (efV T nu ps e b) (e b)
theorem EfOK_uniq {T : TP} {nu : Int → Nat → Int} {ps p q : Int → Int} (h1 : EfOK T nu ps p) (h2 : EfOK T nu ps q) : ∀ b, isB b → p b = q b := fun b hb =>
  lbE_anti (h1.1.1 b hb) (h2.1.1 b hb) (h1.1.2.2 q h2.1.1 h2.2 b hb) (h2.1.2.2 p h1.1.1 h1.2 b hb)
theorem V4_0 : V4 0 := ⟨false, false, false, false, rfl⟩
theorem lbE_0 (x : Int) : lbE 0 x := by
  have : btA 0 1 = false ∧ btA 0 2 = false ∧ btA 0 4 = false ∧ btA 0 8 = false := by decide
  unfold lbE
  rw [this.1, this.2.1, this.2.2.1, this.2.2.2]
  exact ⟨fun h => absurd h (by decide), fun h => absurd h (by decide), fun h => absurd h (by decide), fun h => absurd h (by decide)⟩
theorem EfUp_set {T : TP} (hW : welA T) {nu : Int → Nat → Int} {ps e : Int → Int} (h : EfUp T nu ps e) {b : Int} (hb : isB b) : EfUp T nu ps (setP e b (efV T nu ps e b)) ∧ leE e (setP e b (efV T nu ps e b)) := by
  have hle : leE e (setP e b (efV T nu ps e b)) := by
    intro c hc
    unfold setP
    by_cases q : c = b
    · rw [if_pos q]; subst q; exact h.2.1 c hc
    · rw [if_neg q]; exact lbE.rf _
  refine ⟨⟨fun c hc => ?_, fun c hc => ?_, fun q q1 q2 c hc => ?_⟩, hle⟩
  · unfold setP; split
    · exact efV_V4
    · exact h.1 c hc
  · by_cases q : c = b
    · subst q
      have : setP e c (efV T nu ps e c) c = efV T nu ps e c := if_pos rfl
      rw [this]; exact efV_mono hW hc hle
    · have : setP e b (efV T nu ps e b) c = e c := if_neg q
      rw [this]; exact (h.2.1 c hc).tr (efV_mono hW hc hle)
  · have hq := h.2.2 q q1 q2
    by_cases w : c = b
    · subst w
      have : setP e c (efV T nu ps e c) c = efV T nu ps e c := if_pos rfl
      rw [this]; exact (efV_mono hW hc hq).tr (q2 c hc)
    · have : setP e b (efV T nu ps e b) c = e c := if_neg w
      rw [this]; exact hq c hc
def pcA (x : Int) : Int := biA (btA x 1) + biA (btA x 2) + biA (btA x 4) + biA (btA x 8)
theorem bi_01 (x : Bool) : 0 ≤ biA x ∧ biA x ≤ 1 := by cases x <;> decide
theorem bi_le {x y : Bool} (h : x = true → y = true) : biA x ≤ biA y := by cases x <;> cases y <;> simp_all [biA]
theorem bi_eq {x y : Bool} (h : biA x = biA y) : x = y := by cases x <;> cases y <;> simp_all [biA]
theorem pc_le {x y : Int} (h : lbE x y) : pcA x ≤ pcA y := by
  have a1 := bi_le h.1; have a2 := bi_le h.2.1; have a3 := bi_le h.2.2.1; have a4 := bi_le h.2.2.2
  unfold pcA; omega
theorem pc_lt {x y : Int} (hx : V4 x) (hy : V4 y) (h : lbE x y) (hne : x ≠ y) : pcA x + 1 ≤ pcA y := by
  have a1 := bi_le h.1; have a2 := bi_le h.2.1; have a3 := bi_le h.2.2.1; have a4 := bi_le h.2.2.2
  rcases (show pcA x + 1 ≤ pcA y ∨ pcA y ≤ pcA x by omega) with q | q
  · exact q
  · exfalso
    unfold pcA at q
    refine hne (lbE_anti hx hy h ⟨?_, ?_, ?_, ?_⟩)
    · rw [bi_eq (show biA (btA x 1) = biA (btA y 1) by omega)]; exact id
    · rw [bi_eq (show biA (btA x 2) = biA (btA y 2) by omega)]; exact id
    · rw [bi_eq (show biA (btA x 4) = biA (btA y 4) by omega)]; exact id
    · rw [bi_eq (show biA (btA x 8) = biA (btA y 8) by omega)]; exact id
theorem pc_rng (x : Int) : 0 ≤ pcA x ∧ pcA x ≤ 4 := by
  have a1 := bi_01 (btA x 1); have a2 := bi_01 (btA x 2); have a3 := bi_01 (btA x 4); have a4 := bi_01 (btA x 8)
  unfold pcA; omega
def cnE (e : Int → Int) : Int := pcA (e 0) + pcA (e 1) + pcA (e 2)
theorem cnE_le (e : Int → Int) : 0 ≤ cnE e ∧ cnE e ≤ 12 := by
  have a0 := pc_rng (e 0); have a1 := pc_rng (e 1); have a2 := pc_rng (e 2)
  unfold cnE; omega
theorem cnE_up {p q : Int → Int} (hp : ∀ b, isB b → V4 (p b)) (hq : ∀ b, isB b → V4 (q b)) (h : leE p q) : cnE p ≤ cnE q ∧ ((∃ b, isB b ∧ p b ≠ q b) → cnE p + 1 ≤ cnE q) := by
  have z0 : isB 0 := by unfold isB; omega
  have z1 : isB 1 := by unfold isB; omega
  have z2 : isB 2 := by unfold isB; omega
  have a0 := pc_le (h 0 z0); have a1 := pc_le (h 1 z1); have a2 := pc_le (h 2 z2)
  unfold cnE
  refine ⟨by omega, fun ⟨b, hb, e⟩ => ?_⟩
  have c := pc_lt (hp b hb) (hq b hb) (h b hb) e
  have : b = 0 ∨ b = 1 ∨ b = 2 := by unfold isB at hb; omega
  rcases this with rfl | rfl | rfl <;> omega
/-! ===== the class: touching, homes, effects ===== -/
def nuF (σ : SS) : Int → Nat → Int := fun b p => σ 47 b p
def efF (σ : SS) : Int → Int := fun c => σ 4 c 7
/-- numbers of body b, and those of the first terms -/
def CNb (T : TP) (b : Int) (σ : SS) : Prop := (∀ p : Nat, p < tN T b → nmA (tS T b) p = true → σ 47 b p = -6) ∧ ∀ p : Nat, p < tN T b → σ 48 b p = if nmA (tS T b) p = false ∧ 1 ≤ inn (kos (tS T b p)) then σ 47 b (c0A (tS T b) p) else -6
section CEFF
variable {T : TP} {b : Int} {d : Nat} {σ : SS}
theorem c_touch (hT : TOKA T) (hW : welA T) (hb : isB b) (hC : CW T σ) (hN : CNb T b σ) {p : Nat} (hp : p < tN T b) {r : Int} (hr : 0 ≤ r) :
    Rn (d + 2) 98 [vr 4 b, vi (p : Int), vi r] σ (vi (if toB T b (nuF σ b) p r = true then 1 else 0)) σ := by
  have hn := (hT b hb).1
  have hg := (hW b hb).1
  have e39 := c_39 hT hb (hC.2 b hb).1 hp
  have e47 : rg 40 (σ 47 b) (p : Int) = nuF σ b p := rgN (by omega)
  have e48 : rg 40 (σ 48 b) (p : Int) = if nmA (tS T b) p = false ∧ 1 ≤ inn (kos (tS T b p)) then nuF σ b (c0A (tS T b) p) else -6 := by rw [rgN (by omega)]; exact hN.2 p hp
  have y1 : toB T b (nuF σ b) p r = true → ((1 : Int) = 0 ∨ (1 : Int) = 1) ∧ (vi 1 = vi (if toB T b (nuF σ b) p r = true then 1 else 0) ∧ σ = σ) := fun q => by rw [if_pos q]; exact ⟨Or.inr rfl, rfl, rfl⟩
  have y0 : ¬ toB T b (nuF σ b) p r = true → ((0 : Int) = 0 ∨ (0 : Int) = 1) ∧ (vi 0 = vi (if toB T b (nuF σ b) p r = true then 1 else 0) ∧ σ = σ) := fun q => by rw [if_neg q]; exact ⟨Or.inl rfl, rfl, rfl⟩
  refine G_rn rfl (b_98_0 ?_)
  rw [e39, e47, e48]
  cases hm : nmA (tS T b) p
  · rw [show (if false = true then (0 : Int) else tS T b p) = tS T b p from if_neg (by decide)]
    have same : toA T b (nuF σ b) p r ↔ (nuF σ b p = r ∨ ((kos (tS T b p) = 4 ∨ kos (tS T b p) = 9) ∧ nuF σ b (c0A (tS T b) p) = r)) := by unfold toA; rw [hm]; simp
    have yes1 : nuF σ b p = r → ((1 : Int) = 0 ∨ (1 : Int) = 1) ∧ (vi 1 = vi (if toB T b (nuF σ b) p r = true then 1 else 0) ∧ σ = σ) := fun q => y1 (toB_iff.mpr (same.mpr (Or.inl q)))
    have inn1 : (kos (tS T b p) = 4 ∨ kos (tS T b p) = 9) → (if false = false ∧ 1 ≤ inn (kos (tS T b p)) then nuF σ b (c0A (tS T b) p) else -6) = nuF σ b (c0A (tS T b) p) := fun q => if_pos ⟨rfl, by rcases q with q | q <;> rw [q] <;> decide⟩
    refine ⟨fun h42 => ⟨fun h1 => yes1 h1, fun h1 => ⟨fun q => absurd q (by decide), fun _ => ?_⟩⟩, fun h42 => ⟨fun h64 => ⟨fun h1 => yes1 h1, fun h1 => ⟨fun _ => y0 ?_, fun q => absurd rfl q⟩⟩, fun h64 => ⟨fun h1 => yes1 h1, fun h1 => ⟨fun q => absurd q (by decide), fun _ => ?_⟩⟩⟩⟩
    · rw [inn1 (Or.inl (kos_4.mpr h42))]
      refine ⟨fun q => y0 fun w => ?_, fun q => y1 (toB_iff.mpr (same.mpr (Or.inr ⟨Or.inl (kos_4.mpr h42), q⟩)))⟩
      rcases same.mp (toB_iff.mp w) with z | z
      · exact h1 z
      · exact q z.2
    · intro w
      rcases same.mp (toB_iff.mp w) with z | z
      · exact h1 z
      · rcases z.1 with z | z
        · exact h42 (kos_4.mp z)
        · exact h64 (kos_9.mp z)
    · rw [inn1 (Or.inr (kos_9.mpr h64))]
      refine ⟨fun q => y0 fun w => ?_, fun q => y1 (toB_iff.mpr (same.mpr (Or.inr ⟨Or.inr (kos_9.mpr h64), q⟩)))⟩
      rcases same.mp (toB_iff.mp w) with z | z
      · exact h1 z
      · exact q z.2
  · have e : nuF σ b p = -6 := hN.1 p hp hm
    rw [show (if true = true then (0 : Int) else tS T b p) = 0 from if_pos rfl, e]
    refine ⟨fun q => absurd q (by decide), fun _ => ⟨fun _ => ⟨fun q => absurd q (by omega), fun _ => ⟨fun _ => y0 fun w => ?_, fun q => absurd rfl q⟩⟩, fun q => absurd q (by decide)⟩⟩
    have := (toB_iff.mp w).1
    rw [hm] at this; cases this
theorem c_callDoes (hT : TOKA T) (hW : welA T) (hb : isB b) (hC : CW T σ) (hN : CNb T b σ) (hE : ∀ c, isB c → 0 ≤ efF σ c) {p : Nat} (hp : p < tN T b) (hm : nmA (tS T b) p = false) (hk : tS T b p = 64) {r : Int} {x y : Nat} :
    Rn (d + 2) 101 [vr 4 b, vr 2 0, vi (p : Int), vi r, vi (x : Int), vi (y : Int)] σ (vi (if ((btA (efF σ (ofA (tS T b) p)) x && decide (nuF σ b (c0A (tS T b) p) = r)) || (btA (efF σ (ofA (tS T b) p)) y && decide (nuF σ b p = r))) = true then 1 else 0)) σ := by
  have hn := (hT b hb).1
  have hg := (hW b hb).1
  have hof := (of_B hg hp hm hk).1
  have e40 := c_40 hT hb (hC.2 b hb).1 hp hm hk
  have e47 : rg 40 (σ 47 b) (p : Int) = nuF σ b p := rgN (by omega)
  have e48 : rg 40 (σ 48 b) (p : Int) = nuF σ b (c0A (tS T b) p) := by
    rw [rgN (by omega), hN.2 p hp, if_pos ⟨hm, by rw [hk]; decide⟩]; rfl
  have he := hE _ hof
  unfold efF at he ⊢
  generalize ofA (tS T b) p = q at *
  refine G_rn rfl (b_101_0 ?_)
  rw [e40]
  refine ⟨_, σ, s_15 hof, b_101_7r ⟨⟨he, by omega⟩, ?_⟩⟩
  rw [e47, e48]
  unfold btA
  rw [Int.toNat_natCast x, Int.toNat_natCast y]
  generalize ((((σ 4 q 7).toNat &&& x : Nat)) : Int) = u
  generalize ((((σ 4 q 7).toNat &&& y : Nat)) : Int) = w
  refine ⟨fun h1 => ⟨⟨he, by omega⟩, fun h2 => ⟨Or.inl rfl, ?_, rfl⟩, fun h2 => ⟨fun h3 => ⟨Or.inl rfl, ?_, rfl⟩, fun h3 => ⟨Or.inr rfl, ?_, rfl⟩⟩⟩, fun h1 => ⟨fun h3 => ⟨Or.inr rfl, ?_, rfl⟩, fun h3 => ⟨⟨he, by omega⟩, fun h2 => ⟨Or.inl rfl, ?_, rfl⟩, fun h2 => ⟨fun h4 => ⟨Or.inl rfl, ?_, rfl⟩, fun h4 => ⟨Or.inr rfl, ?_, rfl⟩⟩⟩⟩⟩
  all_goals simp_all
theorem c_puts (hT : TOKA T) (hW : welA T) (hb : isB b) (hC : CW T σ) (hN : CNb T b σ) (hE : ∀ c, isB c → 0 ≤ efF σ c) {p : Nat} (hp : p < tN T b) {r : Int} (hr : 0 ≤ r) :
    Rn (d + 3) 99 [vr 4 b, vr 2 0, vi (p : Int), vi r] σ (vi (if doB T b (nuF σ b) (efF σ) p r false = true then 1 else 0)) σ := by
  have hn := (hT b hb).1
  have hg := (hW b hb).1
  have e39 := c_39 hT hb (hC.2 b hb).1 hp
  have e47 : rg 40 (σ 47 b) (p : Int) = nuF σ b p := rgN (by omega)
  refine G_rn rfl (b_99_0 ?_)
  rw [e39, e47]
  cases hm : nmA (tS T b) p
  · rw [show (if false = true then (0 : Int) else tS T b p) = tS T b p from if_neg (by decide)]
    refine ⟨fun h110 => ⟨fun h64 => ?_, fun h64 => ⟨_, σ, c_callDoes (d := d) (x := 1) (y := 4) hT hW hb hC hN hE hp hm h64, ?_⟩⟩, fun h110 => ?_⟩
    · have : doB T b (nuF σ b) (efF σ) p r false = false := by
        rw [do_f, if_neg (fun q => h110 (kos_3.mp q)), if_neg (fun q => h64 (kos_9.mp q)), Bool.and_false]
      rw [this]; exact ⟨Or.inl rfl, rfl, rfl⟩
    · have : doB T b (nuF σ b) (efF σ) p r false = ((btA (efF σ (ofA (tS T b) p)) 1 && decide (nuF σ b (c0A (tS T b) p) = r)) || (btA (efF σ (ofA (tS T b) p)) 4 && decide (nuF σ b p = r))) := by
        rw [do_f, if_neg (fun q => h110 (kos_3.mp q)), if_pos (kos_9.mpr h64), hm]
        rfl
      rw [← this]
      generalize doB T b (nuF σ b) (efF σ) p r false = z
      cases z
      · exact ⟨fun _ => ⟨Or.inl rfl, rfl, rfl⟩, fun q => absurd rfl q⟩
      · exact ⟨fun q => absurd q (by decide), fun _ => ⟨Or.inr rfl, rfl, rfl⟩⟩
    · have : doB T b (nuF σ b) (efF σ) p r false = decide (nuF σ b p = r) := by
        rw [do_f, if_pos (kos_3.mpr h110), hm]
        rfl
      rw [this]
      exact ⟨fun q => ⟨Or.inl rfl, by rw [decide_eq_false q]; rfl, rfl⟩, fun q => ⟨Or.inr rfl, by rw [decide_eq_true q]; rfl, rfl⟩⟩
  · rw [show (if true = true then (0 : Int) else tS T b p) = 0 from if_pos rfl]
    have : doB T b (nuF σ b) (efF σ) p r false = false := by rw [do_f, hm]; rfl
    rw [this]
    exact ⟨fun _ => ⟨fun _ => ⟨Or.inl rfl, rfl, rfl⟩, fun q => absurd q (by decide)⟩, fun q => absurd q (by decide)⟩
theorem c_looks (hT : TOKA T) (hW : welA T) (hb : isB b) (hC : CW T σ) (hN : CNb T b σ) (hE : ∀ c, isB c → 0 ≤ efF σ c) {p : Nat} (hp : p < tN T b) {r : Int} (hr : 0 ≤ r) :
    Rn (d + 3) 100 [vr 4 b, vr 2 0, vi (p : Int), vi r] σ (vi (if doB T b (nuF σ b) (efF σ) p r true = true then 1 else 0)) σ := by
  have hn := (hT b hb).1
  have hg := (hW b hb).1
  have e39 := c_39 hT hb (hC.2 b hb).1 hp
  refine G_rn rfl (b_100_0 ?_)
  rw [e39]
  cases hm : nmA (tS T b) p
  · rw [show (if false = true then (0 : Int) else tS T b p) = tS T b p from if_neg (by decide)]
    refine ⟨fun h42 => ⟨fun h64 => ?_, fun h64 => ⟨_, σ, c_callDoes (d := d) (x := 2) (y := 8) hT hW hb hC hN hE hp hm h64, ?_⟩⟩, fun h42 => ?_⟩
    · have : doB T b (nuF σ b) (efF σ) p r true = false := by
        rw [do_t, if_neg (fun q => h42 (kos_4.mp q)), if_neg (fun q => h64 (kos_9.mp q)), Bool.and_false]
      rw [this]; exact ⟨Or.inl rfl, rfl, rfl⟩
    · have : doB T b (nuF σ b) (efF σ) p r true = ((btA (efF σ (ofA (tS T b) p)) 2 && decide (nuF σ b (c0A (tS T b) p) = r)) || (btA (efF σ (ofA (tS T b) p)) 8 && decide (nuF σ b p = r))) := by
        rw [do_t, if_neg (fun q => h42 (kos_4.mp q)), if_pos (kos_9.mpr h64), hm]
        rfl
      rw [← this]
      generalize doB T b (nuF σ b) (efF σ) p r true = z
      cases z
      · exact ⟨fun _ => ⟨Or.inl rfl, rfl, rfl⟩, fun q => absurd rfl q⟩
      · exact ⟨fun q => absurd q (by decide), fun _ => ⟨Or.inr rfl, rfl, rfl⟩⟩
    · have e48 : rg 40 (σ 48 b) (p : Int) = nuF σ b (c0A (tS T b) p) := by
        rw [rgN (by omega), hN.2 p hp, if_pos ⟨hm, by rw [h42]; decide⟩]; rfl
      have : doB T b (nuF σ b) (efF σ) p r true = decide (nuF σ b (c0A (tS T b) p) = r) := by
        rw [do_t, if_pos (kos_4.mpr h42), hm]
        rfl
      rw [this, e48]
      exact ⟨fun q => ⟨Or.inl rfl, by rw [decide_eq_false q]; rfl, rfl⟩, fun q => ⟨Or.inr rfl, by rw [decide_eq_true q]; rfl, rfl⟩⟩
  · rw [show (if true = true then (0 : Int) else tS T b p) = 0 from if_pos rfl]
    have : doB T b (nuF σ b) (efF σ) p r true = false := by rw [do_t, hm]; rfl
    rw [this]
    exact ⟨fun _ => ⟨fun _ => ⟨Or.inl rfl, rfl, rfl⟩, fun q => absurd q (by decide)⟩, fun q => absurd q (by decide)⟩
/-- findEffect -/
theorem c_effect (hT : TOKA T) (hW : welA T) (hb : isB b) (hC : CW T σ) (hN : CNb T b σ) (hE : ∀ c, isB c → 0 ≤ efF σ c) :
    Rn (d + 4) 95 [vr 4 b, vr 2 0] σ (vi (efV T (nuF σ) (psA σ) (efF σ) b)) σ := by
  have e6 := (hC.1 b hb).1
  have hn := (hT b hb).1
  have loop : ∀ (m k : Nat), k + m = tN T b → G (d + 3) (fun v σ' => v = vi (efV T (nuF σ) (psA σ) (efF σ) b) ∧ σ' = σ) 95 11 [vr 4 b, vr 2 0, vi (if psA σ b = 0 then 1 else 0), vi (efK T b (nuF σ b) (psA σ) (efF σ) k), vi (k : Int)] [] σ := by
    intro m
    induction m with
    | zero =>
      intro k hk
      obtain rfl : k = tN T b := by omega
      exact b_95x_11 ⟨fun _ => ⟨rfl, rfl⟩, fun q => absurd q (by omega)⟩
    | succ m ih =>
      intro k hk
      have hkn : k < tN T b := by omega
      have i1 := ih (k + 1) (by omega)
      rw [nat1] at i1
      have hgr : (0 : Int) ≤ if psA σ b = 0 then 1 else 0 := by split <;> decide
      have g0 := c_puts (d := d) (r := 0) hT hW hb hC hN hE hkn (Int.le_refl _)
      have g1 := c_looks (d := d) (r := 0) hT hW hb hC hN hE hkn (Int.le_refl _)
      have g2 := c_puts (d := d) hT hW hb hC hN hE hkn hgr
      have g3 := c_looks (d := d) hT hW hb hC hN hE hkn hgr
      have fin : ∀ x4 : Int, x4 = 8 * biA (qA T b (nuF σ b) (psA σ) (efF σ) 3 k) → G (d + 3) (fun v σ' => v = vi (efV T (nuF σ) (psA σ) (efF σ) b) ∧ σ' = σ) 95 62 [vr 4 b, vr 2 0, vi (if psA σ b = 0 then 1 else 0), vu, vi (k : Int)] [vi x4, vi (e4A (anyA (qA T b (nuF σ b) (psA σ) (efF σ) 0) (k + 1)) (anyA (qA T b (nuF σ b) (psA σ) (efF σ) 1) (k + 1)) (anyA (qA T b (nuF σ b) (psA σ) (efF σ) 2) (k + 1)) (anyA (qA T b (nuF σ b) (psA σ) (efF σ) 3) k))] σ := by
        rintro x4 rfl
        refine b_95x_62 ⟨⟨(e4_rng _ _ _ _).1, by have := bi_01 (qA T b (nuF σ b) (psA σ) (efF σ) 3 k); omega⟩, irI (by omega) (by omega), ?_⟩
        rw [e4_or8]
        exact i1
      have st3 : ∀ x3 : Int, x3 = 4 * biA (qA T b (nuF σ b) (psA σ) (efF σ) 2 k) → G (d + 3) (fun v σ' => v = vi (efV T (nuF σ) (psA σ) (efF σ) b) ∧ σ' = σ) 95 50 [vr 4 b, vr 2 0, vi (if psA σ b = 0 then 1 else 0), vu, vi (k : Int)] [vi x3, vi (e4A (anyA (qA T b (nuF σ b) (psA σ) (efF σ) 0) (k + 1)) (anyA (qA T b (nuF σ b) (psA σ) (efF σ) 1) (k + 1)) (anyA (qA T b (nuF σ b) (psA σ) (efF σ) 2) k) (anyA (qA T b (nuF σ b) (psA σ) (efF σ) 3) k))] σ := by
        rintro x3 rfl
        refine b_95x_50 ⟨⟨(e4_rng _ _ _ _).1, by have := bi_01 (qA T b (nuF σ b) (psA σ) (efF σ) 2 k); omega⟩, _, σ, g3, ?_⟩
        rw [e4_or4]
        cases hq : doB T b (nuF σ b) (efF σ) k (if psA σ b = 0 then 1 else 0) true
        · exact ⟨fun _ => fin 0 (by show _ = 8 * biA (doB T b (nuF σ b) (efF σ) k (if psA σ b = 0 then 1 else 0) true); rw [hq]; rfl), fun q => absurd rfl q⟩
        · exact ⟨fun q => absurd q (by decide), fun _ => fin 8 (by show _ = 8 * biA (doB T b (nuF σ b) (efF σ) k (if psA σ b = 0 then 1 else 0) true); rw [hq]; rfl)⟩
      have st2 : ∀ x2 : Int, x2 = 2 * biA (qA T b (nuF σ b) (psA σ) (efF σ) 1 k) → G (d + 3) (fun v σ' => v = vi (efV T (nuF σ) (psA σ) (efF σ) b) ∧ σ' = σ) 95 38 [vr 4 b, vr 2 0, vi (if psA σ b = 0 then 1 else 0), vu, vi (k : Int)] [vi x2, vi (e4A (anyA (qA T b (nuF σ b) (psA σ) (efF σ) 0) (k + 1)) (anyA (qA T b (nuF σ b) (psA σ) (efF σ) 1) k) (anyA (qA T b (nuF σ b) (psA σ) (efF σ) 2) k) (anyA (qA T b (nuF σ b) (psA σ) (efF σ) 3) k))] σ := by
        rintro x2 rfl
        refine b_95x_38 ⟨⟨(e4_rng _ _ _ _).1, by have := bi_01 (qA T b (nuF σ b) (psA σ) (efF σ) 1 k); omega⟩, _, σ, g2, ?_⟩
        rw [e4_or2]
        cases hq : doB T b (nuF σ b) (efF σ) k (if psA σ b = 0 then 1 else 0) false
        · exact ⟨fun _ => st3 0 (by show _ = 4 * biA (doB T b (nuF σ b) (efF σ) k (if psA σ b = 0 then 1 else 0) false); rw [hq]; rfl), fun q => absurd rfl q⟩
        · exact ⟨fun q => absurd q (by decide), fun _ => st3 4 (by show _ = 4 * biA (doB T b (nuF σ b) (efF σ) k (if psA σ b = 0 then 1 else 0) false); rw [hq]; rfl)⟩
      have st1 : ∀ x1 : Int, x1 = biA (qA T b (nuF σ b) (psA σ) (efF σ) 0 k) → G (d + 3) (fun v σ' => v = vi (efV T (nuF σ) (psA σ) (efF σ) b) ∧ σ' = σ) 95 26 [vr 4 b, vr 2 0, vi (if psA σ b = 0 then 1 else 0), vu, vi (k : Int)] [vi x1, vi (e4A (anyA (qA T b (nuF σ b) (psA σ) (efF σ) 0) k) (anyA (qA T b (nuF σ b) (psA σ) (efF σ) 1) k) (anyA (qA T b (nuF σ b) (psA σ) (efF σ) 2) k) (anyA (qA T b (nuF σ b) (psA σ) (efF σ) 3) k))] σ := by
        rintro x1 rfl
        refine b_95x_26 ⟨⟨(e4_rng _ _ _ _).1, (bi_01 _).1⟩, _, σ, g1, ?_⟩
        rw [e4_or1]
        cases hq : doB T b (nuF σ b) (efF σ) k 0 true
        · exact ⟨fun _ => st2 0 (by show _ = 2 * biA (doB T b (nuF σ b) (efF σ) k 0 true); rw [hq]; rfl), fun q => absurd rfl q⟩
        · exact ⟨fun q => absurd q (by decide), fun _ => st2 2 (by show _ = 2 * biA (doB T b (nuF σ b) (efF σ) k 0 true); rw [hq]; rfl)⟩
      refine b_95x_11 ⟨fun q => absurd q (by omega), fun _ => ⟨_, σ, g0, ?_⟩⟩
      cases hq : doB T b (nuF σ b) (efF σ) k 0 false
      · exact ⟨fun _ => st1 0 (by show _ = biA (doB T b (nuF σ b) (efF σ) k 0 false); rw [hq]; rfl), fun q => absurd rfl q⟩
      · exact ⟨fun q => absurd q (by decide), fun _ => st1 1 (by show _ = biA (doB T b (nuF σ b) (efF σ) k 0 false); rw [hq]; rfl)⟩
  have l0 := loop (tN T b) 0 (by omega)
  have e0 : efK T b (nuF σ b) (psA σ) (efF σ) 0 = 0 := rfl
  rw [e0] at l0
  refine G_rn rfl (b_95x_0 ⟨fun q => b_95x_6 ?_, fun q => b_95x_6 ?_⟩)
  · rw [show (if psA σ b = 0 then (1 : Int) else 0) = 1 from if_pos q] at l0; exact l0
  · rw [show (if psA σ b = 0 then (1 : Int) else 0) = 0 from if_neg q] at l0; exact l0
end CEFF
