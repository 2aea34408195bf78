/-! ===== the layout: facts by table ===== -/
def ad (t i : Nat) : Nat := nd adB t + nd adS t * i
def cnt (t : Nat) : Nat := nd cntL t
def isI (d : String) : Bool := decide (d = "I") || decide (d = "Z")
def tbOk (t : Nat) : Bool := (List.range (cnt t)).all (fun i => decide (cellsL[ad t i]? = some (t, i))) && (decide (cls t = 0) || (decide (ak t = 0) && decide (cls t < 10) && (List.range (kc (cls t - 1)).2.2).all (fun k => if rf t k = 0 then isI ((kc (cls t - 1)).2.1 k).2.2.1 else !isI ((kc (cls t - 1)).2.1 k).2.2.1 && decide (cnt (rf t k) = cnt t)))) && (decide (ak t < 3) || decide ((cnt (el t) : Int) = ndI alL t)) && decide (0 ≤ ndI alL t) && decide (ndI alL t < 2147483648) && decide (ak t < 5) && (decide (cls t = 0) || decide (0 < cnt t)) && (decide (t = 99) || !decide (ak t = 0) || !decide (cls t = 0) || decide (cnt t = 0))
theorem tb_all : (List.range 100).all tbOk = true := by decide +kernel
def ceOk (k : Nat) : Bool := match cellsL[k]? with
  | some q => decide (ad q.1 q.2 = k) && decide (q.2 < cnt q.1) && decide (q.1 < 99)
  | none => decide (163 ≤ k)
theorem ce_all : (List.range 163).all ceOk = true := by decide +kernel
theorem ce_len : cellsL.length = 163 := by decide +kernel
theorem cnt_big {t : Nat} (h : 100 ≤ t) : cnt t = 0 := by
  have : ∀ (l : List Nat) (n : Nat), l.length ≤ n → nd l n = 0 := by
    intro l
    induction l with
    | nil => intro n _; cases n <;> rfl
    | cons a l ih => intro n hn; cases n with
      | zero => simp at hn
      | succ n => exact ih n (by simpa using hn)
  exact this cntL t (Nat.le_trans (by decide +kernel) h)
theorem tb {t : Nat} (h : t < 100) : tbOk t = true := List.all_eq_true.mp tb_all t (List.mem_range.mpr h)
theorem tb_cell {t i : Nat} (h : i < cnt t) : cellsL[ad t i]? = some (t, i) := by
  have ht : t < 100 := by
    rcases Nat.lt_or_ge t 100 with q | q
    · exact q
    · rw [cnt_big q] at h; omega
  have := tb ht
  simp only [tbOk, Bool.and_eq_true] at this
  exact of_decide_eq_true (List.all_eq_true.mp this.1.1.1.1.1.1.1 i (List.mem_range.mpr h))
theorem ce_at {k : Nat} {q : Nat × Nat} (h : cellsL[k]? = some q) : ad q.1 q.2 = k ∧ q.2 < cnt q.1 ∧ q.1 < 99 := by
  have hk : k < 163 := by rw [← ce_len]; exact (List.getElem?_eq_some_iff.mp h).1
  have := List.all_eq_true.mp ce_all k (List.mem_range.mpr hk)
  simp only [ceOk, h, Bool.and_eq_true, decide_eq_true_eq] at this
  exact ⟨this.1.1, this.1.2, this.2⟩
/-! ===== what the abstract stands for ===== -/
def tyA (cA : Nat → ClassId) : List (ClassId × FieldType) := [(cA 1, .int), (cA 2, .boolean), (cA 3, .object "RegionStack$Body"), (cA 4, .object "RegionStack$Text")]
def fV (N0 : Nat) (g : Int → Int) (t i k : Nat) : Value := match rf t k with
  | 0 => .int (Int32.ofInt (g k))
  | r + 1 => .ref (N0 + ad (r + 1) i)
def cF (cA : Nat → ClassId) (N0 : Nat) (g : Int → Int) (q : Nat × Nat) : va_E := match ak q.1 with
  | 0 => .inr (cls q.1 - 1, (List.range (kc (cls q.1 - 1)).2.2).map (fV N0 g q.1 q.2))
  | 1 => .inl (cA 1, (ndI alL q.1).toNat, .inl (fun j => Int32.ofInt (g j)))
  | 2 => .inl (cA 2, (ndI alL q.1).toNat, .inl (fun j => Int32.ofInt (g j)))
  | 3 => .inl (cA 3, (ndI alL q.1).toNat, .inr (.inr (.inr (.inr (fun j => some (N0 + ad (el q.1) j))))))
  | _ => .inl (cA 4, (ndI alL q.1).toNat, .inr (.inr (.inr (.inr (fun j => some (N0 + ad (el q.1) j))))))
def cE (cA : Nat → ClassId) (N0 : Nat) (σ : SS) (q : Nat × Nat) : va_E := cF cA N0 (σ q.1 q.2) q
def wsO (cA : Nat → ClassId) (N0 : Nat) (σ : SS) : va_W := cellsL.map (fun q => (N0 + ad q.1 q.2, cE cA N0 σ q))
def adr (N0 b t : Nat) (i : Int) : Nat := if t = 99 then b else N0 + ad t i.toNat
def cv (N0 b : Nat) : AV → Value
  | .inl x => .int (Int32.ofInt x)
  | .inr (.inl none) => .null
  | .inr (.inl (some (t, i))) => .ref (adr N0 b t i)
  | .inr (.inr (.inl x)) => .long (Int64.ofInt x)
  | .inr (.inr (.inr _)) => .null
def vd (t : Nat) (i : Int) : Prop := 0 ≤ i ∧ i < (cnt t : Int)
def okV (sc : Prop) : AV → Prop
  | .inl x => ir x
  | .inr (.inl none) => True
  | .inr (.inl (some (t, i))) => (t = 99 ∧ i = 0 ∧ sc) ∨ (t ≠ 99 ∧ vd t i)
  | .inr (.inr (.inl x)) => il x
  | .inr (.inr (.inr _)) => True
def okL (sc : Prop) (l : List AV) : Prop := ∀ v ∈ l, okV sc v
def InR (σ : SS) : Prop := ∀ t i j, ir (σ t i j)
def isU : AV → Bool
  | .inr (.inr (.inr _)) => true
  | _ => false
def LR (N0 b nL : Nat) (ls : Array Slot) (la : List AV) : Prop := la.length = nL ∧ ∃ l, lv_has ls nL l ∧ ∀ (i : Nat) (v : AV), nth la i = some v → isU v = false → (i, cv N0 b v) ∈ l
theorem LR.at {N0 b nL : Nat} {ls : Array Slot} {la : List AV} (h : LR N0 b nL ls la) {i : Nat} {v : AV} (hi : nth la i = some v) (hu : isU v = false) : ls[i]? = some (.val (cv N0 b v)) := by
  obtain ⟨-, l, h1, h2⟩ := h
  exact h1.2.2 _ (h2 i v hi hu)
theorem nth_lt {α : Type} : ∀ (l : List α) (i : Nat) (v : α), nth l i = some v → i < l.length
  | [], _, _, h => by simp [nth] at h
  | _ :: _, 0, _, _ => by simp
  | _ :: l, i + 1, v, h => by
    simp only [nth] at h
    have := nth_lt l i v h
    simp; omega
theorem nth_mem {α : Type} : ∀ (l : List α) (i : Nat) (v : α), nth l i = some v → v ∈ l
  | [], _, _, h => by simp [nth] at h
  | a :: _, 0, v, h => by simp only [nth, Option.some.injEq] at h; simp [h]
  | _ :: l, i + 1, v, h => List.mem_cons_of_mem _ (nth_mem l i v h)
theorem stl_len : ∀ (l : List AV) (i : Nat) (v : AV), (stl l i v).length = l.length
  | [], _, _ => rfl
  | _ :: _, 0, _ => rfl
  | _ :: l, i + 1, v => by simp [stl, stl_len l i v]
theorem nth_stl : ∀ (l : List AV) (i j : Nat) (v w : AV), nth (stl l i v) j = some w → (j = i ∧ w = v) ∨ (j ≠ i ∧ nth l j = some w)
  | [], _, _, _, _, h => by simp [stl, nth] at h
  | _ :: _, 0, 0, v, w, h => by simp only [stl, nth, Option.some.injEq] at h; exact Or.inl ⟨rfl, h.symm⟩
  | _ :: l, 0, j + 1, v, w, h => by simp only [stl, nth] at h; exact Or.inr ⟨by omega, h⟩
  | a :: l, i + 1, 0, v, w, h => by simp only [stl, nth] at h; exact Or.inr ⟨by omega, h⟩
  | a :: l, i + 1, j + 1, v, w, h => by
    simp only [stl, nth] at h
    rcases nth_stl l i j v w h with ⟨a, b⟩ | ⟨a, b⟩
    · exact Or.inl ⟨by omega, b⟩
    · exact Or.inr ⟨by omega, b⟩
theorem mem_stl : ∀ (l : List AV) (i : Nat) (v w : AV), w ∈ stl l i v → w = v ∨ w ∈ l
  | [], _, _, _, h => by simp [stl] at h
  | _ :: l, 0, v, w, h => by
    simp only [stl, List.mem_cons] at h
    rcases h with h | h
    · exact Or.inl h
    · exact Or.inr (List.mem_cons_of_mem _ h)
  | a :: l, i + 1, v, w, h => by
    simp only [stl, List.mem_cons] at h
    rcases h with h | h
    · exact Or.inr (by simp [h])
    · rcases mem_stl l i v w h with h | h
      · exact Or.inl h
      · exact Or.inr (List.mem_cons_of_mem _ h)
theorem kl_len (l : List AV) (i : Nat) : (kl l i).length = l.length := by
  cases i with
  | zero => rfl
  | succ n =>
    simp only [kl]
    split
    · exact stl_len _ _ _
    · rfl
theorem nth_kl {l : List AV} {i j : Nat} {w : AV} (h : nth (kl l i) j = some w) (hu : isU w = false) : nth l j = some w ∧ (j + 1 = i → ∀ x, w ≠ vl x) := by
  cases i with
  | zero => exact ⟨h, fun q => by omega⟩
  | succ n =>
    simp only [kl] at h
    split at h
    · rename_i x hx
      rcases nth_stl _ _ _ _ _ h with ⟨h1, h2⟩ | ⟨h1, h2⟩
      · rw [h2] at hu; simp [isU] at hu
      · exact ⟨h2, fun q => by omega⟩
    · rename_i hx
      refine ⟨h, fun q x hw => ?_⟩
      have : j = n := by omega
      subst this
      exact hx x (by rw [h, hw])
theorem mem_kl {l : List AV} {i : Nat} {w : AV} (h : w ∈ kl l i) : w = vu ∨ w ∈ l := by
  cases i with
  | zero => exact Or.inr h
  | succ n =>
    simp only [kl] at h
    split at h
    · exact mem_stl _ _ _ _ h
    · exact Or.inr h
theorem okL_stl {sc : Prop} {l : List AV} {i : Nat} {v : AV} (h : okL sc l) (hv : okV sc v) : okL sc (stl (kl l i) i v) := by
  intro w hw
  rcases mem_stl _ _ _ _ hw with h1 | h1
  · rw [h1]; exact hv
  · rcases mem_kl h1 with h1 | h1
    · rw [h1]; trivial
    · exact h w h1
theorem cat_cv {N0 b : Nat} (v : AV) : (cv N0 b v).category = 2 → ∃ x, v = vl x := by
  intro h
  rcases v with x | o | x | u
  · simp [cv, Value.category] at h
  · cases o <;> simp [cv, Value.category] at h
  · exact ⟨x, rfl⟩
  · simp [cv, Value.category] at h
/-- a value of one slot is written -/
theorem LR.set {N0 b nL : Nat} {ls' : Array Slot} {la : List AV} {l : List (Nat × Value)} {i : Nat} {v : AV} (hl : la.length = nL) (h2 : ∀ (i : Nat) (v : AV), nth la i = some v → isU v = false → (i, cv N0 b v) ∈ l)
    (h : lv_has ls' nL ((i, cv N0 b v) :: l.filter (fun q => !(q.1 == i) && !(q.1 + 1 == i && q.2.category == 2)))) : LR N0 b nL ls' (stl (kl la i) i v) := by
  refine ⟨by rw [stl_len, kl_len, hl], _, h, fun j w hw hu => ?_⟩
  rcases nth_stl _ _ _ _ _ hw with ⟨e1, e2⟩ | ⟨e1, e2⟩
  · subst e1; subst e2; exact List.mem_cons_self
  · obtain ⟨e3, e4⟩ := nth_kl e2 hu
    refine List.mem_cons_of_mem _ (List.mem_filter.mpr ⟨h2 j w e3 hu, ?_⟩)
    simp only [Bool.and_eq_true, Bool.not_eq_true', beq_eq_false_iff_ne, ne_eq, Bool.and_eq_false_iff, beq_eq_false_iff_ne]
    refine ⟨e1, ?_⟩
    by_cases q : j + 1 = i
    · refine Or.inr fun hc => ?_
      obtain ⟨x, hx⟩ := cat_cv w hc
      exact e4 q x hx
    · exact Or.inl q
theorem LR.setL {N0 b nL : Nat} {ls' : Array Slot} {la : List AV} {l : List (Nat × Value)} {i : Nat} {v : AV} (hl : la.length = nL) (h2 : ∀ (i : Nat) (v : AV), nth la i = some v → isU v = false → (i, cv N0 b v) ∈ l)
    (h : lv_has ls' nL ((i, cv N0 b v) :: l.filter (fun q => !(q.1 == i) && (!(q.1 == i + 1) && !(q.1 + 1 == i && q.2.category == 2))))) : LR N0 b nL ls' (stl (stl (kl la i) i v) (i + 1) vu) := by
  refine ⟨by rw [stl_len, stl_len, kl_len, hl], _, h, fun j w hw hu => ?_⟩
  rcases nth_stl _ _ _ _ _ hw with ⟨e1, e2⟩ | ⟨e0, e0'⟩
  · rw [e2] at hu; simp [isU] at hu
  rcases nth_stl _ _ _ _ _ e0' with ⟨e1, e2⟩ | ⟨e1, e2⟩
  · subst e1; subst e2; exact List.mem_cons_self
  · obtain ⟨e3, e4⟩ := nth_kl e2 hu
    refine List.mem_cons_of_mem _ (List.mem_filter.mpr ⟨h2 j w e3 hu, ?_⟩)
    simp only [Bool.and_eq_true, Bool.not_eq_true', beq_eq_false_iff_ne, ne_eq, Bool.and_eq_false_iff, beq_eq_false_iff_ne]
    refine ⟨e1, e0, ?_⟩
    by_cases q : j + 1 = i
    · refine Or.inr fun hc => ?_
      obtain ⟨x, hx⟩ := cat_cv w hc
      exact e4 q x hx
    · exact Or.inl q
/-! ===== Int32 and Int ===== -/
theorem oi_to {x : Int} (h : ir x) : (Int32.ofInt x).toInt = x := Int32.toInt_ofInt_of_le h.1 (by have := h.2; omega)
theorem oi_lt {x y : Int} (hx : ir x) (hy : ir y) : Int32.ofInt x < Int32.ofInt y ↔ x < y := by rw [Int32.lt_iff_toInt_lt, oi_to hx, oi_to hy]
theorem oi_le {x y : Int} (hx : ir x) (hy : ir y) : Int32.ofInt x ≤ Int32.ofInt y ↔ x ≤ y := by rw [Int32.le_iff_toInt_le, oi_to hx, oi_to hy]
theorem oi_eq {x y : Int} (hx : ir x) (hy : ir y) : Int32.ofInt x = Int32.ofInt y ↔ x = y := by rw [← Int32.toInt_inj, oi_to hx, oi_to hy]
theorem oi_0 : (0 : Int32) = Int32.ofInt 0 := rfl
theorem ir_0 : ir 0 := by unfold ir; omega
theorem oi_in {x : Int} {n : Nat} (hx : ir x) : vp_in (Int32.ofInt x) n ↔ 0 ≤ x ∧ x < n := by rw [vp_in_iff, oi_to hx]
theorem oi_nat {x : Int} (hx : ir x) (h : 0 ≤ x) : (Int32.ofInt x).toNatClampNeg = x.toNat := by rw [Int32.toNatClampNeg, oi_to hx]
theorem oi_div {x y : Int} (hx : ir x) (hy : ir y) (h : 0 ≤ x ∧ 0 < y) : Int32.ofInt x / Int32.ofInt y = Int32.ofInt (x / y) := by
  have h1 : x / y ≤ x := Int.ediv_le_self _ h.1
  have h2 : 0 ≤ x / y := Int.ediv_nonneg h.1 (by omega)
  have h3 : ir (x / y) := ⟨by omega, by have := hx.2; omega⟩
  rw [← Int32.toInt_inj, oi_to h3, Int32.toInt_div, oi_to hx, oi_to hy, Int.tdiv_eq_ediv_of_nonneg h.1]
  exact Int.bmod_eq_of_le (by have := h3.1; omega) (by have := h3.2; omega)
theorem oi_rem {x y : Int} (hx : ir x) (hy : ir y) (h : 0 ≤ x ∧ 0 < y) : Int32.ofInt x - Int32.ofInt x / Int32.ofInt y * Int32.ofInt y = Int32.ofInt (x % y) := by
  rw [oi_div hx hy h, ← Int32.ofInt_mul, ← Int32.ofInt_sub]
  congr 1
  rw [Int.emod_def, Int.mul_comm]
theorem ir_div {x y : Int} (hx : ir x) (h : 0 ≤ x ∧ 0 < y) : ir (x / y) := by
  have h1 : x / y ≤ x := Int.ediv_le_self _ h.1
  have h2 : 0 ≤ x / y := Int.ediv_nonneg h.1 (by omega)
  exact ⟨by omega, by have := hx.2; omega⟩
theorem ir_mod {x y : Int} (hy : ir y) (h : 0 ≤ x ∧ 0 < y) : ir (x % y) := by
  have h1 := Int.emod_lt_of_pos x h.2
  have h2 := Int.emod_nonneg x (show y ≠ 0 by omega)
  exact ⟨by omega, by have := hy.2; omega⟩
theorem ol_to {x : Int} (h : il x) : (Int64.ofInt x).toInt = x := Int64.toInt_ofInt_of_le h.1 (by have := h.2; omega)
theorem ol_lt {x y : Int} (hx : il x) (hy : il y) : Int64.ofInt x < Int64.ofInt y ↔ x < y := by rw [Int64.lt_iff_toInt_lt, ol_to hx, ol_to hy]
theorem ol_eq {x y : Int} (hx : il x) (hy : il y) : Int64.ofInt x = Int64.ofInt y ↔ x = y := by rw [← Int64.toInt_inj, ol_to hx, ol_to hy]
theorem ol_div {x y : Int} (hx : il x) (hy : il y) (h : 0 ≤ x ∧ 0 < y) : Int64.ofInt x / Int64.ofInt y = Int64.ofInt (x / y) := by
  have h1 : x / y ≤ x := Int.ediv_le_self _ h.1
  have h2 : 0 ≤ x / y := Int.ediv_nonneg h.1 (by omega)
  have h3 : il (x / y) := ⟨by omega, by have := hx.2; omega⟩
  rw [← Int64.toInt_inj, ol_to h3, Int64.toInt_div, ol_to hx, ol_to hy, Int.tdiv_eq_ediv_of_nonneg h.1]
  exact Int.bmod_eq_of_le (by have := h3.1; omega) (by have := h3.2; omega)
theorem ol_rem {x y : Int} (hx : il x) (hy : il y) (h : 0 ≤ x ∧ 0 < y) : Int64.ofInt x - Int64.ofInt x / Int64.ofInt y * Int64.ofInt y = Int64.ofInt (x % y) := by
  rw [ol_div hx hy h, ← Int64.ofInt_mul, ← Int64.ofInt_sub]
  congr 1
  rw [Int.emod_def, Int.mul_comm]
theorem il_div {x y : Int} (hx : il x) (h : 0 ≤ x ∧ 0 < y) : il (x / y) := by
  have h1 : x / y ≤ x := Int.ediv_le_self _ h.1
  have h2 : 0 ≤ x / y := Int.ediv_nonneg h.1 (by omega)
  exact ⟨by omega, by have := hx.2; omega⟩
theorem il_mod {x y : Int} (hy : il y) (h : 0 ≤ x ∧ 0 < y) : il (x % y) := by
  have h1 := Int.emod_lt_of_pos x h.2
  have h2 := Int.emod_nonneg x (show y ≠ 0 by omega)
  exact ⟨by omega, by have := hy.2; omega⟩
theorem il_ir {x : Int} (h : ir x) : il x := by unfold ir at h; unfold il; omega
theorem oi_l {x : Int} (h : ir x) : (Int32.ofInt x).toInt64 = Int64.ofInt x := by
  rw [← Int64.toInt_inj, Int32.toInt_toInt64, oi_to h, ol_to (il_ir h)]
theorem ol_i {x : Int} (h : ir x) : (Int64.ofInt x).toInt32 = Int32.ofInt x := by
  rw [← Int32.toInt_inj, Int64.toInt_toInt32, ol_to (il_ir h), oi_to h]
  exact Int.bmod_eq_of_le (by have := h.1; omega) (by have := h.2; omega)
theorem oi_nI {x : Int} (h : 0 ≤ x) : Int32.ofInt x = nI x.toNat := by
  obtain ⟨n, rfl⟩ := Int.eq_ofNat_of_zero_le h
  rfl
theorem oi_bits {x : Int} (h : ir x) (h0 : 0 ≤ x) : (Int32.ofInt x).toBitVec.toNat = x.toNat := by
  rw [oi_nI h0]; exact pk_tn (by have := h.2; omega)
theorem oi_and {x y : Int} (hx : ir x) (hy : ir y) (h : 0 ≤ x ∧ 0 ≤ y) : Int32.ofInt x &&& Int32.ofInt y = Int32.ofInt ((x.toNat &&& y.toNat : Nat) : Int) := by
  have e : ((x.toNat &&& y.toNat : Nat) : Int) ≤ x := by have := Nat.and_le_left (n := x.toNat) (m := y.toNat); omega
  have h3 : ir ((x.toNat &&& y.toNat : Nat) : Int) := ⟨by omega, by have := hx.2; omega⟩
  have : (Int32.ofInt x &&& Int32.ofInt y).toBitVec = (Int32.ofInt ((x.toNat &&& y.toNat : Nat) : Int)).toBitVec := by
    apply BitVec.eq_of_toNat_eq
    rw [Int32.toBitVec_and, BitVec.toNat_and, oi_bits hx h.1, oi_bits hy h.2, oi_bits h3 (by omega)]
    simp
  exact Int32.toBitVec_inj.mp this
theorem or_le {a b : Nat} (ha : a < 2147483648) (hb : b < 2147483648) : a ||| b < 2147483648 := Nat.or_lt_two_pow (n := 31) ha hb
theorem oi_or {x y : Int} (hx : ir x) (hy : ir y) (h : 0 ≤ x ∧ 0 ≤ y) : Int32.ofInt x ||| Int32.ofInt y = Int32.ofInt ((x.toNat ||| y.toNat : Nat) : Int) := by
  have e := or_le (a := x.toNat) (b := y.toNat) (by have := hx.2; omega) (by have := hy.2; omega)
  have h3 : ir ((x.toNat ||| y.toNat : Nat) : Int) := ⟨by omega, by omega⟩
  have : (Int32.ofInt x ||| Int32.ofInt y).toBitVec = (Int32.ofInt ((x.toNat ||| y.toNat : Nat) : Int)).toBitVec := by
    apply BitVec.eq_of_toNat_eq
    rw [Int32.toBitVec_or, BitVec.toNat_or, oi_bits hx h.1, oi_bits hy h.2, oi_bits h3 (by omega)]
    simp
  exact Int32.toBitVec_inj.mp this
theorem ir_or {x y : Int} (hx : ir x) (hy : ir y) : ir ((x.toNat ||| y.toNat : Nat) : Int) := by
  have e := or_le (a := x.toNat) (b := y.toNat) (by have := hx.2; omega) (by have := hy.2; omega)
  exact ⟨by omega, by omega⟩
theorem ir_and {x y : Int} (hx : ir x) : ir ((x.toNat &&& y.toNat : Nat) : Int) := by
  have := Nat.and_le_left (n := x.toNat) (m := y.toNat)
  exact ⟨by omega, by have := hx.2; have := hx.1; omega⟩
theorem oi_31 {x : Int} (hx : ir x) : Int32.ofInt x &&& Int32.ofInt 31 = Int32.ofInt (x % 32) := by
  rw [pk_and (Int32.ofInt x) (m := Int32.ofInt 31) 5 (by decide)]
  have h1 : (Int32.ofInt x).toBitVec.toInt = x := oi_to hx
  have h2 := BitVec.toInt_eq_toNat_cond (Int32.ofInt x).toBitVec
  rw [h1] at h2
  have h3 : ((Int32.ofInt x).toBitVec.toNat % 2 ^ 5 : Nat) = (x % 32).toNat := by
    split at h2 <;> omega
  rw [h3, oi_nI (by omega)]
theorem ol_and1 {x : Int} (hx : il x) (h0 : 0 ≤ x) : Int64.ofInt x &&& Int64.ofInt 1 = Int64.ofInt (x % 2) := by
  have h3 : il (x % 2) := by unfold il at *; omega
  have hb : ∀ z : Int, il z → 0 ≤ z → (Int64.ofInt z).toBitVec.toNat = z.toNat := by
    intro z hz h0
    have h1 : (Int64.ofInt z).toBitVec.toInt = z := ol_to hz
    have h2 := BitVec.toInt_eq_toNat_cond (Int64.ofInt z).toBitVec
    rw [h1] at h2
    split at h2
    · omega
    · have := (Int64.ofInt z).toBitVec.isLt; omega
  have : (Int64.ofInt x &&& Int64.ofInt 1).toBitVec = (Int64.ofInt (x % 2)).toBitVec := by
    apply BitVec.eq_of_toNat_eq
    rw [Int64.toBitVec_and, BitVec.toNat_and, hb _ hx h0, hb _ h3 (by omega), hb 1 (by unfold il; omega) (by omega)]
    rw [show (1 : Int).toNat = 2 ^ 1 - 1 from rfl, Nat.and_two_pow_sub_one_eq_mod]
    omega
  exact Int64.toBitVec_inj.mp this
theorem ol_shl {x : Int} (hx : il (x * 8388608)) (h0 : 0 ≤ x) : Int64.ofInt x <<< ((Int32.ofInt 23).toInt64 &&& 63) = Int64.ofInt (x * 8388608) := by
  have e : (Int32.ofInt 23).toInt64 &&& 63 = 23 := by decide
  rw [e, ← Int64.toBitVec_inj, Int64.toBitVec_shiftLeft, Int64.ofInt_mul, Int64.toBitVec_mul]
  apply BitVec.eq_of_toNat_eq
  rw [show ((23 : Int64).toBitVec.smod 64) = 23#64 by decide, BitVec.shiftLeft_eq', BitVec.toNat_shiftLeft, BitVec.toNat_mul, show (Int64.ofInt 8388608).toBitVec.toNat = 8388608 by decide, Nat.shiftLeft_eq, show (23#64).toNat = 23 by decide, show 2 ^ 23 = 8388608 by decide]
theorem ol_cmp {x y : Int} (hx : il x) (hy : il y) : lg_cmp (Int64.ofInt x) (Int64.ofInt y) = Int32.ofInt (lc x y) := by
  unfold lg_cmp lc
  by_cases h : x > y
  · rw [if_pos h, if_pos ((ol_lt hy hx).mpr h)]; rfl
  · rw [if_neg h, if_neg (fun q => h ((ol_lt hy hx).mp q))]
    by_cases h2 : x = y
    · rw [if_pos h2, if_pos ((ol_eq hx hy).mpr h2)]; rfl
    · rw [if_neg h2, if_neg (fun q => h2 ((ol_eq hx hy).mp q))]; rfl
theorem oi_max {x y : Int} (hx : ir x) (hy : ir y) : (if Int32.ofInt x < Int32.ofInt y then Int32.ofInt y else Int32.ofInt x) = Int32.ofInt (max x y) := by
  by_cases h : x < y
  · rw [if_pos ((oi_lt hx hy).mpr h)]; congr 1; omega
  · rw [if_neg (fun q => h ((oi_lt hx hy).mp q))]; congr 1; omega
