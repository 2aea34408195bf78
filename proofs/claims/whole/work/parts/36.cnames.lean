section CNAMES
variable {T : TP} {b : Int} {d : Nat}
def bnf (n : Nat) (s : Int → Int) (p : Nat) (q : Nat) : Bool := !nmA s q && (decide (s q = 108) && (decide (s ((q : Int) + 1) = s p) && (decide (c1A n s q ≤ p) && decide (p < enA n s q))))
theorem bnf_t {n : Nat} {s : Int → Int} {p q : Nat} : bnf n s p q = true ↔ nmA s q = false ∧ s q = 108 ∧ s ((q : Int) + 1) = s p ∧ c1A n s q ≤ p ∧ p < enA n s q := by
  simp [bnf]
theorem c_binder {n : Nat} {s : Int → Int} (h : GoodA n s) (hn : n ≤ 40) {σ : SS} (h37 : ∀ p : Nat, p < n → σ 37 b p = s p) (ht : ∀ p : Nat, p < n → nmA s p = false → CTp n s b σ p) (h42 : σ 42 b 0 = -6) {p : Nat} (hp : p < n) (hm : nmA s p = false) :
    Rn (d + 3) 137 [vr 5 b, vi (p : Int)] σ (vi (bnA n s p)) σ := by
  refine G_rn rfl (b_137_0 ?_)
  rw [rgN (by omega), rgN (by omega), h37 p hp]
  have key : ∀ (m q : Nat) (i : Int), q ≤ m → q < n → nmA s q = false → q ≤ p → p < enA n s q → 0 ≤ i → i + q ≤ p → (∀ j, q ≤ j → j < p → bnf n s p j = false) →
      G (d + 2) (fun v σ' => v = vi (bnA n s p) ∧ σ' = σ) 137 15 [vr 5 b, vu, vi (s p), vi (q : Int), vi (σ 42 b q), vi i, vu] [] σ := by
    intro m
    induction m with
    | zero =>
      intro q i hq hqn hqm hqp hpe hi hiq hno
      obtain rfl : q = 0 := by omega
      rw [show ((0 : Nat) : Int) = 0 from rfl, h42]
      refine b_137_15 ⟨fun q => absurd q (by omega), fun _ => ⟨fun _ => ⟨?_, rfl⟩, fun q => absurd q (by omega)⟩⟩
      rw [show bnA n s p = -6 from last_none fun j hj => hno j (by omega) hj]
    | succ m ih =>
      intro q i hq hqn hqm hqp hpe hi hiq hno
      by_cases hq0 : q = 0
      · exact ih q i (by omega) hqn hqm hqp hpe hi hiq hno
      obtain ⟨r, j, r1, r2, r3, r4, r5⟩ := par_ex h hqn (by omega) hqm
      obtain ⟨rk1, rk2⟩ := kid_xk.mp r5
      have hrn : r < n := by omega
      have e42 : σ 42 b q = r := by rw [rk2]; exact ((ht r hrn r3).1 j rk1).2
      have hprp : p < enA n s r := Nat.lt_of_lt_of_le hpe (nest h hrn r2 r4)
      rw [e42]
      have er : rg 40 (σ 37 b) (r : Int) = s r := by rw [rgN (by omega)]; exact h37 r hrn
      have er1 : rg 40 (σ 37 b) ((r : Int) + 1) = s ((r : Int) + 1) := by
        have := h37 (r + 1) (by omega)
        rw [nat1] at this
        rw [rg_in ⟨by omega, by omega⟩]; exact this
      have mid : ∀ j, r < j → j < q → bnf n s p j = false := fun x h1 h2 => by
        cases hb : bnf n s p x
        · rfl
        · obtain ⟨g1, g2, g3, g4, g5⟩ := bnf_t.mp hb
          have hxn : x < n := by omega
          -- x would lie between q and its part
          have hl : parA n s q = r := r1
          rcases last_spec (fun p => !nmA s p && decide (q < enA n s p)) q with ⟨a, _⟩ | ⟨y, a, c, e, f⟩
          · unfold parA at hl; omega
          · unfold parA at hl
            have : y = r := by omega
            subst this
            have := f x h1 h2
            simp only [g1, Bool.not_false, Bool.true_and, decide_eq_false_iff_not] at this
            omega
      have next : bnf n s p r = false → G (d + 2) (fun v σ' => v = vi (bnA n s p) ∧ σ' = σ) 137 15 [vr 5 b, vu, vi (s p), vi (r : Int), vi (rg 40 (σ 42 b) (r : Int)), vi (i + 1), vu] [] σ := fun hb => by
        rw [rgN (by omega)]
        refine ih r (i + 1) (by omega) hrn r3 (by omega) hprp (by omega) (by omega) fun x h1 h2 => ?_
        rcases Nat.eq_or_lt_of_le h1 with y | y
        · subst y; exact hb
        · rcases Nat.lt_or_ge x q with z | z
          · exact mid x y z
          · exact hno x z h2
      have hi1 : ir (i + 1) := irI (by omega) (by omega)
      refine b_137_15 ⟨fun q => absurd q (by omega), fun _ => ⟨fun q => absurd q (by omega), fun _ => ?_⟩⟩
      rw [er, er1]
      refine ⟨fun h1 => ⟨fun _ => ⟨hi1, next ?_⟩, fun q => absurd rfl q⟩, fun h1 => ⟨irI (by omega) (by omega), fun h2 => ⟨fun _ => ⟨hi1, next ?_⟩, fun q => absurd rfl q⟩, fun h2 => ⟨fun q => absurd q (by decide), fun _ => ⟨⟨irI (by omega) (by omega), irI (by omega) (by omega)⟩, ?_⟩⟩⟩⟩
      · cases hb : bnf n s p r
        · rfl
        · exact absurd (bnf_t.mp hb).2.1 h1
      · cases hb : bnf n s p r
        · rfl
        · exact absurd (bnf_t.mp hb).2.2.1 h2
      · have hin : inn (kos (s r)) = 2 := by rw [h1]; decide
        have ei : rg 120 (σ 41 b) (3 * (r : Int) + 1) = c1A n s r := by
          rw [rg_in ⟨by omega, by omega⟩]
          exact ((ht r hrn r3).1 1 (by omega)).1
        rw [ei]
        refine ⟨fun h3 => ⟨hi1, next ?_⟩, fun h3 => ⟨?_, rfl⟩⟩
        · cases hb : bnf n s p r
          · rfl
          · exfalso
            obtain ⟨g1, g2, g3, g4, g5⟩ := bnf_t.mp hb
            have hj : j = 0 ∨ j = 1 := by omega
            rcases hj with rfl | rfl
            · have : q = c0A s r := rk2
              rw [this] at hpe
              have : enA n s (c0A s r) = c1A n s r := rfl
              omega
            · have : q = c1A n s r := rk2
              omega
        · have : bnA n s p = r := by
            refine last_uniq (f := bnf n s p) (by omega) (bnf_t.mpr ⟨r3, h1, h2, by omega, hprp⟩) fun x h1 h2 => ?_
            rcases Nat.lt_or_ge x q with z | z
            · exact mid x h1 z
            · exact hno x z h2
          rw [this]
  exact key p p 0 (Nat.le_refl _) hp hm (Nat.le_refl _) (en_spec h hp).1 (Int.le_refl _) (by omega) (fun j h1 h2 => by omega)
theorem c_names {n : Nat} {s : Int → Int} (h : GoodA n s) (hn : n ≤ 40) (hb : isB b) {σ0 : SS} (h6 : σ0 6 b 1 = (n : Int)) (h37 : ∀ p : Nat, p < n → σ0 37 b p = s p) (hs : ∀ p : Nat, p < n → 33 ≤ s p ∧ s p ≤ 126) (h39 : ∀ p : Nat, p < n → σ0 39 b p = if nmA s p = true then 0 else s p)
    (ht : ∀ p : Nat, p < n → nmA s p = false → CTp n s b σ0 p) (h42 : σ0 42 b 0 = -6) :
    ∃ σ', Rn (d + 4) 136 [vr 5 b] σ0 vu σ' ∧ Fm (fun t i _ => i = b ∧ (t = 44 ∨ t = 40)) σ0 σ' ∧ ∀ p : Nat, p < n →
      σ' 44 b p = (if nmA s p = false ∧ 97 ≤ s p ∧ s p ≤ 100 then bnA n s p else -6) ∧ σ' 40 b p = (if nmA s p = false ∧ s p = 64 then ofA s p else -6) := by
  have hb' := hb
  unfold isB at hb'
  have key : ∀ (P : AV → SS → Prop), (∀ σ', Fm (fun t i _ => i = b ∧ (t = 44 ∨ t = 40)) σ0 σ' → (∀ p : Nat, p < n → σ' 44 b p = (if nmA s p = false ∧ 97 ≤ s p ∧ s p ≤ 100 then bnA n s p else -6) ∧ σ' 40 b p = (if nmA s p = false ∧ s p = 64 then ofA s p else -6)) → P vu σ') →
      ∀ (m k : Nat) (σ : SS), k + m = n → Fm (fun t i _ => i = b ∧ (t = 44 ∨ t = 40)) σ0 σ → (∀ p : Nat, p < k → σ 44 b p = (if nmA s p = false ∧ 97 ≤ s p ∧ s p ≤ 100 then bnA n s p else -6) ∧ σ 40 b p = (if nmA s p = false ∧ s p = 64 then ofA s p else -6)) → G (d + 3) P 136 2 [vr 5 b, vi (k : Int), vu] [] σ := by
    intro P hP m
    induction m with
    | zero =>
      intro k σ hk hF hw
      exact b_136_2 ⟨fun _ => hP σ hF fun p hp => hw p (by omega), fun q => absurd q (by rw [hF _ _ _ (by omega), h6]; omega)⟩
    | succ m ih =>
      intro k σ hk hF hw
      have hkn : k < n := by omega
      have e6 : σ 6 b 1 = (n : Int) := (hF _ _ _ (by omega)).trans h6
      have e39 : rg 40 (σ 39 b) (k : Int) = if nmA s k = true then 0 else s k := by rw [rgN (by omega), hF _ _ _ (by omega)]; exact h39 k hkn
      have hir : ir ((k : Int) + 1) := irI (by omega) (by omega)
      have fin : ∀ σ' x y, σ' = us 40 (us 40 σ 44 b k x) 40 b k y → x = (if nmA s k = false ∧ 97 ≤ s k ∧ s k ≤ 100 then bnA n s k else -6) → y = (if nmA s k = false ∧ s k = 64 then ofA s k else -6) → G (d + 3) P 136 2 [vr 5 b, vi ((k : Int) + 1), vu] [] σ' := by
        intro σ' x y e hx hy
        rw [us_in ⟨by omega, by omega⟩, us_in ⟨by omega, by omega⟩] at e
        have := ih (k + 1) σ' (by omega) (by rw [e]; exact (hF.up ⟨rfl, Or.inl rfl⟩).up ⟨rfl, Or.inr rfl⟩) (fun p hp => by
          by_cases q : p = k
          · subst q
            rw [e, up_ne (by omega), up_eq ⟨rfl, rfl, rfl⟩, up_eq ⟨rfl, rfl, rfl⟩]
            exact ⟨hx, hy⟩
          · rw [e, up_ne (by omega), up_ne (by omega), up_ne (by omega), up_ne (by omega)]
            exact hw p (by omega))
        rw [nat1] at this
        exact this
      refine b_136_2 ⟨fun q => absurd q (by omega), fun _ => ?_⟩
      rw [e39]
      cases hm : nmA s k
      · rw [show (if false = true then (0 : Int) else s k) = s k from if_neg (by decide)]
        have h1 := hs k hkn
        refine ⟨fun hl => ?_, fun hl => ?_⟩
        · rw [ite0] at hl
          intro σ1 e1
          refine ⟨fun h64 σ2 e2 => ⟨hir, ?_⟩, fun h64 => ⟨hir, ?_, fun σ3 e3 => ⟨hir, ?_⟩⟩⟩
          · rw [e1] at e2
            exact fin _ _ _ e2 (by rw [if_neg (fun q => hl q.2)]) (by rw [if_neg (fun q => h64 q.2)])
          · have hof := of_B h hkn hm h64
            have e37 : rg 40 (σ1 37 b) ((k : Int) + 1) = s ((k : Int) + 1) := by
              have := h37 (k + 1) hof.2
              rw [nat1] at this
              rw [rg_in ⟨by omega, by omega⟩, e1, us_in ⟨by omega, by omega⟩, up_ne (by omega), hF _ _ _ (by omega)]
              exact this
            rw [e37]
            have := hof.1
            unfold isB ofA at this
            exact irI (by omega) (by omega)
          · have hof := of_B h hkn hm h64
            have e37 : rg 40 (σ1 37 b) ((k : Int) + 1) = s ((k : Int) + 1) := by
              have := h37 (k + 1) hof.2
              rw [nat1] at this
              rw [rg_in ⟨by omega, by omega⟩, e1, us_in ⟨by omega, by omega⟩, up_ne (by omega), hF _ _ _ (by omega)]
              exact this
            rw [e37, e1] at e3
            exact fin _ _ _ e3 (by rw [if_neg (fun q => hl q.2)]) (by rw [if_pos ⟨hm, h64⟩]; rfl)
        · rw [ite1] at hl
          have hbi := c_binder (d := d) (b := b) h hn (σ := σ) (fun p hp => by rw [hF _ _ _ (by omega)]; exact h37 p hp) (fun p hp hpm => by
            obtain ⟨g1, g2⟩ := ht p hp hpm
            refine ⟨fun j hj => ?_, by rw [hF _ _ _ (by omega)]; exact g2⟩
            rw [hF 41 _ _ (by omega), hF 42 _ _ (by omega)]; exact g1 j hj) (by rw [hF _ _ _ (by omega)]; exact h42) hkn hm
          refine ⟨_, σ, hbi, fun σ6 e6' => ⟨fun h64 σ7 e7 => ⟨hir, ?_⟩, fun h64 => absurd h64 (by omega)⟩⟩
          rw [e6'] at e7
          exact fin _ _ _ e7 (by rw [if_pos ⟨hm, hl⟩]) (by rw [if_neg (fun q => h64 q.2)])
      · rw [show (if true = true then (0 : Int) else s k) = 0 from if_pos rfl]
        refine ⟨fun _ σ1 e1 => ⟨fun _ σ2 e2 => ⟨hir, ?_⟩, fun q => absurd q (by decide)⟩, fun q => absurd q (by decide)⟩
        rw [e1] at e2
        exact fin _ _ _ e2 (by rw [if_neg (by rw [hm]; simp)]) (by rw [if_neg (by rw [hm]; simp)])
  have : Ok (d + 4) 136 [vr 5 b] σ0 (fun v σ' => v = vu ∧ Fm (fun t i _ => i = b ∧ (t = 44 ∨ t = 40)) σ0 σ' ∧ ∀ p : Nat, p < n →
      σ' 44 b p = (if nmA s p = false ∧ 97 ≤ s p ∧ s p ≤ 100 then bnA n s p else -6) ∧ σ' 40 b p = (if nmA s p = false ∧ s p = 64 then ofA s p else -6)) :=
    G_ok rfl (b_136_0 (key _ (fun σ' h1 h2 => ⟨rfl, h1, h2⟩) n 0 σ0 (by omega) (Fm.rf σ0) (fun p hp => by omega)))
  obtain ⟨v, σ', h1, rfl, h2, h3⟩ := this
  exact ⟨σ', h1, h2, h3⟩
/-- read -/
theorem c_read (hT : TOKA T) (hb : isB b) {σ : SS} (hC : CTx T σ) : ∃ (f : Int) (σ' : SS), Rn (d + 5) 133 [vr 5 b] σ vu σ' ∧ Fm (Ctm b) σ σ' ∧ IsFA (tN T b) (tS T b) f ∧ σ' 5 b 9 = f ∧ (f = -6 → CTr T b σ') := by
  have hb' := hb
  unfold isB at hb'
  obtain ⟨hn, -, -, hsr⟩ := hT b hb
  let σ1 := up σ 5 b 10 0
  have hF1 : Fm (Ctm b) σ σ1 := (Fm.rf σ).up (by unfold Ctm; omega)
  have hC1 : CTx T σ1 := hC.keep hF1 (fun t i j q => by unfold Ctm at q; omega)
  obtain ⟨f, σ2, r1, r2, r3, r4⟩ := c_fault (d := d) hT hb hC1
  let σ4 := up σ2 5 b 9 f
  have hF4 : Fm (Ctm b) σ σ4 := (hF1.tr (r3.mono fun t i j q => by unfold Ctm; omega)).up (by unfold Ctm; omega)
  have e9 : σ4 5 b 9 = f := up_eq ⟨rfl, rfl, rfl⟩
  by_cases hf : f = -6
  · have hg : GoodA (tN T b) (tS T b) := by
      rcases r2 with q | q | ⟨k, q1, q2, q3⟩
      · exact q.2
      · omega
      · omega
    have hC4 : CTx T σ4 := hC.keep hF4 (fun t i j q => by unfold Ctm at q; omega)
    obtain ⟨c1, c2, c3, c4⟩ := hC4 b hb
    have h39 : ∀ p : Nat, p < tN T b → σ4 39 b p = if nmA (tS T b) p = true then 0 else tS T b p := fun p hp => by
      show up σ2 5 b 9 f 39 b p = _
      rw [up_ne (by omega)]; exact r4 hf p hp
    obtain ⟨σ5, l1, l2, l3, l4, l5⟩ := c_link (d := d) hg hn hb c1 h39 (fun p hp => by have := hsr p hp; omega) (show up σ2 5 b 9 f 5 b 10 = 0 by
      rw [up_ne (by omega), r3 _ _ _ (by omega)]; exact up_eq ⟨rfl, rfl, rfl⟩)
    obtain ⟨σ6, n1, n2, n3⟩ := c_names (d := d) hg hn hb (σ0 := σ5) (by rw [l2 _ _ _ (by unfold Clk; omega)]; exact c1) (fun p hp => by rw [l2 _ _ _ (by unfold Clk; omega)]; exact c4 p (by omega) (by omega)) hsr (fun p hp => by rw [l2 _ _ _ (by unfold Clk; omega)]; exact h39 p hp) l3 l5
    refine ⟨f, σ6, G_rn rfl (b_133_0 ?_), (hF4.tr (l2.mono fun t i j q => by unfold Clk at q; unfold Ctm; omega)).tr (n2.mono fun t i j q => by unfold Ctm; omega), r2, by rw [n2 _ _ _ (by omega), l2 _ _ _ (by unfold Clk; omega)]; exact e9, fun _ => ⟨fun p hp => ⟨?_, fun hm => ⟨fun i hi => ?_, ?_⟩, n3 p hp⟩, ?_, ?_⟩⟩
    · intro s1 q1
      obtain rfl : s1 = σ1 := q1
      refine ⟨f, σ2, r1, fun s4 q4 => ?_⟩
      obtain rfl : s4 = σ4 := q4
      exact ⟨fun q => absurd (e9.trans hf) q, fun _ => ⟨σ5, l1, σ6, n1, rfl, rfl⟩⟩
    · rw [n2 _ _ _ (by omega), l2 _ _ _ (by unfold Clk; omega)]; exact h39 p hp
    · rw [n2 41 _ _ (by omega), n2 42 _ _ (by omega)]; exact (l3 p hp hm).1 i hi
    · rw [n2 _ _ _ (by omega)]; exact (l3 p hp hm).2
    · rw [n2 _ _ _ (by omega)]; exact l5
    · rw [n2 _ _ _ (by omega)]; exact l4
  · refine ⟨f, σ4, G_rn rfl (b_133_0 ?_), hF4, r2, e9, fun q => absurd q hf⟩
    intro s1 q1
    obtain rfl : s1 = σ1 := q1
    refine ⟨f, σ2, r1, fun s4 q4 => ?_⟩
    obtain rfl : s4 = σ4 := q4
    exact ⟨fun _ => ⟨rfl, rfl⟩, fun q => absurd (e9.symm.trans q) hf⟩
end CNAMES
