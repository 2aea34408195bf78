def rmD (d : Nat) : Room := { frames := d, cells := 0, slots := 0, locals := 32 * d }
def SI (sc : Prop) (L : Nat) (xs : Nat → Int32) (σ : SS) : Prop := InR σ ∧ (sc → σ 99 0 (-1) = (L : Int) ∧ ∀ j : Nat, j < L → σ 99 0 j = (xs j).toInt)
def CC (p : Program) (l : Launch) (e : Env) (R : Room) (s : State) (m : MethodId) (args : Array Value) (below : List Frame) (meth : Method) (c : Code) (cells slots : Nat) (Q : State → Prop) (D : va_G) (cA : Nat → ClassId) (N0 b y pc : Nat) (la sa : List AV) (σ : SS) : Prop :=
  ∀ (ls : Array Slot) (H : Heap) (locs : List Loc), LR N0 b (nl y) ls la → va_P D vwCl (wsO cA N0 σ) H → va_S (fun q => N0 ≤ q) s.heap H locs → W p l e R s m args below meth c H locs cells slots Q (F0 m (nd (bp y) pc) ls (sa.map (cv N0 b)))
def rv (N0 b : Nat) (v : AV) : Option Value := if isU v = true then none else some (cv N0 b v)
def NW (U : State) : Prop := ∀ e ∈ lkn, va_Nw (.methodLinkNest (cn e.1) e.2.1 (nm e.2.2.1) "RegionStack") U
theorem NW.moved {s U : State} (hW : s.WarmedH U.vm) (h : NW s) : NW U := fun e he => va_Nw.warmM hW (h e he)
theorem NW.same {u U : State} (hv : u.vm = U.vm) (h : NW u) : NW U := fun e he => va_Nw.same rfl hv (h e he)
def PcA (D : va_G) (cA : Nat → ClassId) (N0 b : Nat) (as : List AV) (σ : SS) : Array Value → State → Prop := va_Pc (as.map (cv N0 b)) (fun U => va_P D vwCl (wsO cA N0 σ) U.heap ∧ va_K D vwCl (tyA cA) U ∧ NW U)
def QcA (D : va_G) (cA : Nat → ClassId) (N0 b : Nat) (v : AV) (σ : SS) : Array Value → State → Outcome → State → Prop := fun _ st o t => o = .returned (rv N0 b v) ∧ va_P D vwCl (wsO cA N0 σ) t.heap ∧ va_F (fun q => N0 ≤ q) st t
def FX (p : Program) (s : State) (m : MethodId) (args : Array Value) (c : Code) (D : va_G) (cA : Nat → ClassId) (N0 b L : Nat) (xs : Nat → Int32) (sc : Prop) (y : Nat) : Prop :=
  p.tables.exec = Jvm.exec ∧ c.code = byt y ∧ c.maxLocals = nl y ∧ s.vm.findClass (cn (oc y)) = some m.cls ∧ (∀ w ∈ UW, w.before args s = true) ∧ va_K D vwCl (tyA cA) s ∧ NW s ∧ (sc → va_X b L xs s s.heap ∧ b < s.heap.size ∧ b < N0)
theorem chk_split {o : Nat} {by0 : ByteArray} {b : List Nat} {i : Nat} {ins : AI} (h : chkI o by0 b i ins = true) : decode by0 (nd b i) = .ok (ins.1, nd b (i + 1) - nd b i) ∧ chkT b i ins = true ∧ chkL o b i ins = true ∧ chkK o ins = true := by
  simp only [chkI, Bool.and_eq_true, decide_eq_true_eq] at h
  exact ⟨h.1.1.1, h.1.1.2, h.1.2, h.2⟩
theorem okL_tl {sc : Prop} {v : AV} {l : List AV} (h : okL sc (v :: l)) : okL sc l := fun w hw => h w (List.mem_cons_of_mem _ hw)
theorem okL_hd {sc : Prop} {v : AV} {l : List AV} (h : okL sc (v :: l)) : okV sc v := h v List.mem_cons_self
theorem okL_cons {sc : Prop} {v : AV} {l : List AV} (h : okL sc l) (hv : okV sc v) : okL sc (v :: l) := by
  intro w hw
  rcases List.mem_cons.mp hw with h1 | h1
  · rw [h1]; exact hv
  · exact h w h1
theorem InR_up {σ : SS} {t : Nat} {i j x : Int} (h : InR σ) (hx : ir x) : InR (up σ t i j x) := by
  intro t' i' j'
  simp only [up]
  split
  · exact hx
  · exact h _ _ _
theorem SI_up {sc : Prop} {L : Nat} {xs : Nat → Int32} {σ : SS} {t : Nat} {i j x : Int} (h : SI sc L xs σ) (hx : ir x) (ht : t ≠ 99) : SI sc L xs (up σ t i j x) ∧ up σ t i j x 99 = σ 99 := by
  have e : up σ t i j x 99 = σ 99 := by
    funext i'
    exact up_off (fun z => ht z.1.symm)
  refine ⟨⟨InR_up h.1 hx, fun hs => ?_⟩, e⟩
  rw [e]
  exact h.2 hs
theorem dec1 {by0 : ByteArray} {a n k : Nat} {J : Instr} (hd : decode by0 a = .ok (J, n - a)) (nx : n = a + k) : decode by0 a = .ok (J, k) := by rw [hd, nx, Nat.add_sub_cancel_left]
def retI : AV → Instr
  | .inl _ => .ireturn
  | .inr (.inl _) => .areturn
  | .inr (.inr (.inl _)) => .lreturn
  | .inr (.inr (.inr _)) => .return_
theorem okL_stl2 {sc : Prop} {l : List AV} {i : Nat} (h : okL sc l) : okL sc (stl l i vu) := by
  intro w hw
  rcases mem_stl _ _ _ _ hw with h1 | h1
  · rw [h1]; trivial
  · exact h w h1
theorem bif_t {q : Bool} {A : Prop} (h : (bif q then A else False)) : q = true ∧ A := by cases q <;> simp_all
theorem ir_lc (x y : Int) : ir (lc x y) := by
  unfold lc ir
  split
  · omega
  · split <;> omega
theorem lkc_at {o x : Nat} {ns : List Nat} {z : Int} (h : chkK o (.ldc x, ns, z) = true) : Jvm.Cond.constant (cn o) x (Int32.ofInt z) ∈ lw_tbl ∧ ir z := by
  have h : lkc.any (fun e => decide (e.1 = o) && decide (e.2.1 = x) && decide (e.2.2.1 = z)) = true := h
  obtain ⟨q, hq, hc⟩ := List.any_eq_true.mp h
  simp only [Bool.and_eq_true, decide_eq_true_eq] at hc
  have := List.all_eq_true.mp lkc_ok q hq
  simp only [Bool.and_eq_true, decide_eq_true_eq] at this
  rw [hc.1.1, hc.1.2, hc.2] at this
  exact ⟨lw_mem this.1.1, this.1.2, this.2⟩
theorem lkl_at {o x : Nat} {ns : List Nat} {z : Int} (h : chkK o (.ldc2_w x, ns, z) = true) : Jvm.Cond.constantLong (cn o) x (Int64.ofInt z) ∈ lw_tbl ∧ ir z := by
  have h : lkl.any (fun e => decide (e.1 = o) && decide (e.2.1 = x) && decide (e.2.2.1 = z)) = true := h
  obtain ⟨q, hq, hc⟩ := List.any_eq_true.mp h
  simp only [Bool.and_eq_true, decide_eq_true_eq] at hc
  have := List.all_eq_true.mp lkl_ok q hq
  simp only [Bool.and_eq_true, decide_eq_true_eq] at this
  rw [hc.1.1, hc.1.2, hc.2] at this
  exact ⟨lw_mem this.1.1, this.1.2, this.2⟩
theorem i8_oi {n : Int} (h : -128 ≤ n ∧ n ≤ 127) : (Int8.ofInt n).toInt32 = Int32.ofInt n := by
  rw [← Int32.toInt_inj, Int8.toInt_toInt32, Int8.toInt_ofInt_of_le (by omega) (by omega), oi_to (by unfold ir; omega)]
theorem i16_oi {n : Int} (h : -32768 ≤ n ∧ n ≤ 32767) : (Int16.ofInt n).toInt32 = Int32.ofInt n := by
  rw [← Int32.toInt_inj, Int16.toInt_toInt32, Int16.toInt_ofInt_of_le (by omega) (by omega), oi_to (by unfold ir; omega)]
theorem lkf_use {o x c k q : Nat} (h : lkf.any (fun e => decide (e.1 = o) && decide (e.2.1 = x) && decide (e.2.2.1 = c) && decide (e.2.2.2.1 = k) && decide (e.2.2.2.2.1 = q)) = true) :
    Jvm.Cond.fieldLink (cn o) x (kc (c - 1)).1 (fq c k).2.1 (fq c k).2.2.1 ∈ lw_tbl ∧ k < (kc (c - 1)).2.2 ∧ 0 < c ∧ c < 10 ∧ tyq q (fq c k).2.2.1 = true ∧ (fq c k).1 = (kc (c - 1)).1 ∧ (q = 2 ∨ (fq c k).2.2.2 = false) := by
  obtain ⟨e, he, hc⟩ := List.any_eq_true.mp h
  obtain ⟨e1, e2, e3, e4, e5, e6⟩ := e
  simp only [Bool.and_eq_true, decide_eq_true_eq] at hc
  obtain ⟨⟨⟨⟨rfl, rfl⟩, rfl⟩, rfl⟩, rfl⟩ := hc
  have := List.all_eq_true.mp lkf_ok _ he
  simp only [Bool.and_eq_true, decide_eq_true_eq, Bool.or_eq_true, Bool.not_eq_true'] at this
  exact ⟨lw_mem this.1.1.1.1.1.1, this.1.1.1.1.1.2, this.1.1.1.1.2, this.1.1.1.2, this.1.1.2, this.1.2, this.2⟩
theorem lkf_get {o x c k q : Nat} {z : Int} (h : chkK o (.getfield x, [c, k, q], z) = true) : lkf.any (fun e => decide (e.1 = o) && decide (e.2.1 = x) && decide (e.2.2.1 = c) && decide (e.2.2.2.1 = k) && decide (e.2.2.2.2.1 = q)) = true ∧ z = (k : Int) := by
  have h : (lkf.any (fun e => decide (e.1 = o) && decide (e.2.1 = x) && decide (e.2.2.1 = c) && decide (e.2.2.2.1 = k) && decide (e.2.2.2.2.1 = q)) && decide (z = (k : Int))) = true := h
  rw [Bool.and_eq_true, decide_eq_true_eq] at h
  exact h
theorem lkf_put {o x c k q : Nat} {z : Int} (h : chkK o (.putfield x, [c, k, q], z) = true) : lkf.any (fun e => decide (e.1 = o) && decide (e.2.1 = x) && decide (e.2.2.1 = c) && decide (e.2.2.2.1 = k) && decide (e.2.2.2.2.1 = q)) = true ∧ z = (k : Int) := by
  have h : (lkf.any (fun e => decide (e.1 = o) && decide (e.2.1 = x) && decide (e.2.2.1 = c) && decide (e.2.2.2.1 = k) && decide (e.2.2.2.2.1 = q)) && decide (z = (k : Int))) = true := h
  rw [Bool.and_eq_true, decide_eq_true_eq] at h
  exact h
theorem uw_lay {c : Nat} (hc : c < 9) : ∀ w ∈ u_ws (kc c).1 (kc c).2.1 (kc c).2.2, w ∈ UW := by
  intro w hw
  refine uw_mem (lay_all hc w hw) ?_
  obtain ⟨k, -, rfl⟩ := List.mem_map.mp hw
  unfold u_lay
  split <;> rfl
theorem rf_kind {t k : Nat} (ht : t < 100) (hc : 0 < cls t) (hk : k < (kc (cls t - 1)).2.2) : (rf t k = 0 ↔ isI ((kc (cls t - 1)).2.1 k).2.2.1 = true) ∧ (rf t k ≠ 0 → cnt (rf t k) = cnt t) := by
  have h := tb ht
  simp only [tbOk, Bool.and_eq_true, Bool.or_eq_true, decide_eq_true_eq] at h
  rcases h.1.1.1.1.1.1.2 with q | q
  · omega
  have h2 := List.all_eq_true.mp q.2 k (List.mem_range.mpr hk)
  by_cases h0 : rf t k = 0
  · rw [if_pos h0] at h2
    exact ⟨⟨fun _ => h2, fun _ => h0⟩, fun z => absurd h0 z⟩
  · rw [if_neg h0] at h2
    simp only [Bool.and_eq_true, Bool.not_eq_true', decide_eq_true_eq] at h2
    refine ⟨⟨fun z => absurd z h0, fun z => ?_⟩, fun _ => h2.2⟩
    rw [h2.1] at z; cases z
theorem cls_99 : cls 99 = 0 := by decide +kernel
theorem ak_99 : ak 99 = 1 := by decide +kernel
theorem ok_vd {sc : Prop} {t : Nat} {i : Int} (h : okV sc (vr t i)) (ht : t ≠ 99) : vd t i := by
  rcases h with h | h
  · exact absurd h.1 ht
  · exact h.2
theorem aln_ne {σ : SS} {t : Nat} (ht : t ≠ 99) : aln σ t = ndI alL t := by
  unfold aln
  have : Nat.beq t 99 = false := by
    cases h : Nat.beq t 99
    · rfl
    · exact absurd (Nat.eq_of_beq_eq_true h) ht
  rw [this]; rfl
theorem aln_99 {σ : SS} : aln σ 99 = σ 99 0 (-1) := rfl
theorem beq_t {a b : Nat} (h : Nat.beq a b = true) : a = b := Nat.eq_of_beq_eq_true h
theorem adr_ne {N0 b t : Nat} {i : Int} (h : t ≠ 99) : adr N0 b t i = N0 + ad t i.toNat := if_neg h
theorem tsw_at {x : Int} {K : Nat → Prop} : ∀ (ts : List Nat) (lo : Int), tsw x K lo ts → ∀ (k t : Nat), ts[k]? = some t → x = lo + k → K t
  | [], _, _, k, t, h, _ => by simp at h
  | a :: ts, lo, h, 0, t, hk, hx => by
    simp only [List.getElem?_cons_zero, Option.some.injEq] at hk
    subst hk
    exact h.1 (by simpa using hx)
  | a :: ts, lo, h, k + 1, t, hk, hx => by
    simp only [List.getElem?_cons_succ] at hk
    exact tsw_at ts (lo + 1) h.2 k t hk (by rw [hx]; push_cast; omega)
theorem tgs_at {b : List Nat} {i : Nat} : ∀ (os : List Int) (ts : List Nat), tgs b i os ts = true → os.length = ts.length ∧ ∀ (k : Nat) (o : Int), os[k]? = some o → ∃ t, ts[k]? = some t ∧ (nd b i : Int) + o = (nd b t : Int)
  | [], [], _ => ⟨rfl, fun k o h => by simp at h⟩
  | [], _ :: _, h => by simp [tgs] at h
  | _ :: _, [], h => by simp [tgs] at h
  | a :: os, t :: ts, h => by
    simp only [tgs, Bool.and_eq_true] at h
    obtain ⟨h1, h2⟩ := tgs_at os ts h.2
    refine ⟨by simp [h1], fun k o hk => ?_⟩
    cases k with
    | zero =>
      simp only [List.getElem?_cons_zero, Option.some.injEq] at hk
      subst hk
      exact ⟨t, rfl, of_decide_eq_true h.1⟩
    | succ k =>
      simp only [List.getElem?_cons_succ] at hk ⊢
      exact h2 k o hk
theorem lsw_at {b : List Nat} {i d : Nat} {dflt x : Int} {K : Nat → Prop} (hd : (nd b i : Int) + dflt = (nd b d : Int)) : ∀ (ps : List (Int × Int)) (ts : List Nat), tgs b i (ps.map (fun q => q.2)) ts = true → lsN x ps (K d) → lsw x K ps ts → ∃ (o : Int) (t : Nat), Op.lookupswitch.offset ps dflt x = o ∧ (nd b i : Int) + o = (nd b t : Int) ∧ K t
  | [], _, _, h1, _ => ⟨dflt, d, rfl, hd, h1⟩
  | (k, o) :: ps, [], h, _, _ => by simp [tgs] at h
  | (k, o) :: ps, t :: ts, h, h1, h2 => by
    simp only [List.map_cons, tgs, Bool.and_eq_true] at h
    by_cases hx : x = k
    · exact ⟨o, t, by rw [Op.lookupswitch.offset_cons, if_pos hx.symm], of_decide_eq_true h.1, h2.1 hx⟩
    · obtain ⟨o', t', e1, e2, e3⟩ := lsw_at hd ps ts h.2 (h1 hx) h2.2
      exact ⟨o', t', by rw [Op.lookupswitch.offset_cons, if_neg (fun z => hx z.symm)]; exact e1, e2, e3⟩
theorem pop_at : ∀ (n : Nat) (acc st as st' : List AV), pop n acc st = some (as, st') → ∃ us : List AV, us.length = n ∧ st = us ++ st' ∧ as = us.reverse ++ acc
  | 0, acc, st, as, st', h => by
    simp only [pop, Option.some.injEq, Prod.mk.injEq] at h
    exact ⟨[], rfl, by simp [h.2], by simp [h.1]⟩
  | n + 1, acc, [], as, st', h => by simp [pop] at h
  | n + 1, acc, v :: st, as, st', h => by
    simp only [pop] at h
    obtain ⟨us, h1, h2, h3⟩ := pop_at n (v :: acc) st as st' h
    exact ⟨v :: us, by simp [h1], by simp [h2], by simp [h3]⟩
theorem cat1_sum {N0 b : Nat} : ∀ (st : List AV), cat1 st = true → ((st.map (cv N0 b)).map fun v => v.category).sum = st.length
  | [], _ => rfl
  | .inl x :: l, h => by
    have := cat1_sum (N0 := N0) (b := b) l h
    simp only [List.map_cons, List.sum_cons, List.length_cons, this]
    simp [cv, Value.category]; omega
  | .inr (.inl r) :: l, h => by
    have := cat1_sum (N0 := N0) (b := b) l h
    simp only [List.map_cons, List.sum_cons, List.length_cons, this]
    cases r <;> simp [cv, Value.category] <;> omega
  | .inr (.inr r) :: l, h => by simp [cat1] at h
theorem n99_ok {sc : Prop} : ∀ (l : List AV), n99 l = true → okL sc l → okL False l
  | [], _, _ => fun v h => by cases h
  | .inl x :: l, h, ho => okL_cons (v := .inl x) (n99_ok l h (okL_tl ho)) (show ir x from okL_hd (v := .inl x) ho)
  | .inr (.inl none) :: l, h, ho => okL_cons (n99_ok l h (okL_tl ho)) trivial
  | .inr (.inl (some (t, i))) :: l, h, ho => by
    simp only [n99, Bool.and_eq_true, Bool.not_eq_true'] at h
    have ht : t ≠ 99 := fun q => by subst q; exact absurd h.1 (by decide)
    exact okL_cons (n99_ok l h.2 (okL_tl ho)) (Or.inr ⟨ht, ok_vd (okL_hd ho) ht⟩)
  | .inr (.inr r) :: l, h, _ => by simp [n99] at h
theorem good_wsV {own C : String} {idx y' : Nat} (h1 : Jvm.Cond.methodLink own idx (nm y') ∈ UW) (h2 : Jvm.Cond.instanceMethod (nm y') ∈ UW) (h3 : Jvm.Cond.selects C (nm y') (nm y') ∈ UW) (h4 : Jvm.Cond.initialized C ∈ UW) (h5 : Jvm.Cond.code (nm y') (byt y') (nl y') (rt y') ∈ UW) : GoodIn UW (wsV own idx C (nm y') (wsM y')) := by
  have key : ∀ w ∈ wsV own idx C (nm y') (wsM y'), w ∈ UW := by
    intro w hw
    rcases List.mem_append.mp hw with q | q
    · simp only [List.mem_cons, List.not_mem_nil, or_false] at q
      rcases q with rfl | rfl | rfl | rfl <;> assumption
    · rcases List.mem_cons.mp q with rfl | q
      · exact h5
      · exact q
  exact fun w hw => ⟨key w hw, uw_good w (key w hw)⟩
theorem good_wsS {own : String} {idx y' : Nat} (h1 : Jvm.Cond.methodLink own idx (nm y') ∈ UW) (h2 : Jvm.Cond.static (nm y') ∈ UW) (h4 : Jvm.Cond.initialized own ∈ UW) (h5 : Jvm.Cond.code (nm y') (byt y') (nl y') (rt y') ∈ UW) : GoodIn UW (wsS own idx (nm y') (wsM y')) := by
  have key : ∀ w ∈ wsS own idx (nm y') (wsM y'), w ∈ UW := by
    intro w hw
    rcases List.mem_append.mp hw with q | q
    · simp only [List.mem_cons, List.not_mem_nil, or_false] at q
      rcases q with rfl | rfl | rfl <;> assumption
    · rcases List.mem_cons.mp q with rfl | q
      · exact h5
      · exact q
  exact fun w hw => ⟨key w hw, uw_good w (key w hw)⟩
theorem good_wsM {y' : Nat} (h5 : Jvm.Cond.code (nm y') (byt y') (nl y') (rt y') ∈ UW) : GoodIn UW (wsM y') := by
  have key : ∀ w ∈ wsM y', w ∈ UW := by
    intro w hw
    rcases List.mem_cons.mp hw with rfl | q
    · exact h5
    · exact q
  exact fun w hw => ⟨key w hw, uw_good w (key w hw)⟩
theorem pl_at {y : Nat} (hy : y < 140) : Jvm.Cond.initialized (nm y).cls ∈ UW ∧ (isS y = true → Jvm.Cond.static (nm y) ∈ UW) ∧ (isS y = false → Jvm.Cond.instanceMethod (nm y) ∈ UW) ∧ (isS y = false → (nm y).name ≠ "<init>" → Jvm.Cond.selects (nm y).cls (nm y) (nm y) ∈ UW) ∧ plainName (nm y).cls = true ∧ ((nm y).cls ≠ "java/lang/invoke/MethodHandle" ∧ (nm y).cls ≠ "java/lang/invoke/VarHandle" ∧ (parseMethodDescriptor (nm y).desc).map (fun d => d.parameters.length) = some (np y)) ∧ nl y ≤ 13 ∧ (nm y).cls = cn (oc y) ∧ np y + (if isS y then 0 else 1) ≤ nl y ∧ Jvm.Cond.code (nm y) (byt y) (nl y) (rt y) ∈ UW := by
  have h := List.all_eq_true.mp pl_ok y (List.mem_range.mpr hy)
  simp only [plOk, Bool.and_eq_true, Bool.or_eq_true, decide_eq_true_eq] at h
  obtain ⟨⟨⟨⟨⟨⟨⟨h1, h2⟩, h3⟩, h4⟩, h5⟩, h6⟩, h7⟩, h8⟩ := h
  refine ⟨uw_mem (lw_mem h1) rfl, fun q => ?_, fun q => ?_, fun q q2 => ?_, h4, h5, h6, h7, h8, uw_mem (pc_all hy) rfl⟩
  · rw [q, if_pos rfl] at h2; exact uw_mem (lw_mem h2) rfl
  · rw [q, if_neg (by decide)] at h2; exact uw_mem (lw_mem h2) rfl
  · rcases h3 with (h3 | h3) | h3
    · rw [q] at h3; cases h3
    · exact absurd h3 q2
    · exact uw_mem (lw_mem h3) rfl
theorem cn_at {c : Nat} (h : c < 9) : cn c = (kc c).1 := of_decide_eq_true (List.all_eq_true.mp cn_kc c (List.mem_range.mpr h))

section SND
variable {p : Program} {l : Launch} {e₀ : Env} {R : Room} {s : State} {m : MethodId} {args : Array Value} {below : List Frame} {meth : Method} {c : Code} {cells slots : Nat} {Q : State → Prop}
variable {D : va_G} {cA : Nat → ClassId} {N0 b L y d : Nat} {xs : Nat → Int32} {sc : Prop}
set_option maxHeartbeats 4000000 in
theorem stp_sound (hF : FX p s m args c D cA N0 b L xs sc y) {Cal : CT} {ret : AV → SS → Prop} {K : KT} {ins : AI} {pc : Nat} {la sa : List AV} {σ : SS}
  (hchk : chkI (oc y) (byt y) (bp y) pc ins = true) (hfr : d + 1 ≤ R.frames) (hlo : 32 * (d + 1) ≤ R.locals) (hce : cells ≤ R.cells) (hsl : slots ≤ R.slots)
  (hCal : ∀ y' as σ v σ', Cal y' as σ v σ' → okL False as → InR σ → y' < 140 ∧ okV False v ∧ InR σ' ∧ σ' 99 = σ 99 ∧ Met l (nm y') (wsM y') (rmD d) (PcA D cA N0 b as σ) (QcA D cA N0 b v σ') 0 0 (fun q => N0 ≤ q))
  (hK : ∀ pc' la' sa' σ', K pc' la' sa' σ' → okL sc la' → okL sc sa' → SI sc L xs σ' → σ' 99 = σ 99 → CC p l e₀ R s m args below meth c cells slots Q D cA N0 b y pc' la' sa' σ')
  (hret : ∀ v σ', ret v σ' → okV sc v → SI sc L xs σ' → σ' 99 = σ 99 → ∀ (pc0 : Nat) (ls : Array Slot) (H : Heap) (locs : List Loc), va_P D vwCl (wsO cA N0 σ') H → va_S (fun q => N0 ≤ q) s.heap H locs → decode (byt y) pc0 = .ok (retI v, 1) → (bzm y = true → ∀ x, v = .inl x → x = 0 ∨ x = 1) → ins.1 = retI v → W p l e₀ R s m args below meth c H locs cells slots Q (F0 m pc0 ls (rv N0 b v).toList))
  (hst : stp Cal noS ret K (bzm y) ins pc la sa σ) (hla : okL sc la) (hsa : okL sc sa) (hsi : SI sc L xs σ) : CC p l e₀ R s m args below meth c cells slots Q D cA N0 b y pc la sa σ := by
  obtain ⟨hx, hb, hml, hown, hts, hKs, hNW, hscr⟩ := hF
  intro ls H locs hls hP hS
  obtain ⟨J, ns, z⟩ := ins
  obtain ⟨hd, hT, hLn, hCk⟩ := chk_split hchk
  cases J <;> simp only [stp] at hst
  all_goals first | exact hst.elim | skip
  case aload_n i =>
    have nx : nd (bp y) (pc + 1) = nd (bp y) pc + 1 := of_decide_eq_true hLn
    have hd := dec1 hd nx
    simp only [aLd] at hst
    split at hst
    case h_2 => exact hst.elim
    rename_i r hr
    have ok := hla _ (nth_mem _ _ _ hr)
    have w := hK _ _ _ _ hst hla (okL_cons hsa ok) hsi rfl _ _ _ hls hP hS
    rw [nx] at w
    have g := hls.at hr rfl
    rcases r with _ | ⟨t, i'⟩
    · exact nu_aload_n hx hb hd g w
    · exact lv_aload_n hx hb hd rfl g w
  case aload i =>
    have nx : nd (bp y) (pc + 1) = nd (bp y) pc + 2 := of_decide_eq_true hLn
    have hd := dec1 hd nx
    simp only [aLd] at hst
    split at hst
    case h_2 => exact hst.elim
    rename_i r hr
    have ok := hla _ (nth_mem _ _ _ hr)
    have w := hK _ _ _ _ hst hla (okL_cons hsa ok) hsi rfl _ _ _ hls hP hS
    rw [nx] at w
    have g := hls.at hr rfl
    rcases r with _ | ⟨t, i'⟩
    · exact nu_aload hx hb hd g w
    · exact lv_aload hx hb hd g w
  case iload_n i =>
    have nx : nd (bp y) (pc + 1) = nd (bp y) pc + 1 := of_decide_eq_true hLn
    have hd := dec1 hd nx
    simp only [iLd] at hst
    split at hst
    case h_2 => exact hst.elim
    rename_i x hr
    have ok := hla _ (nth_mem _ _ _ hr)
    have w := hK _ _ _ _ hst hla (okL_cons hsa ok) hsi rfl _ _ _ hls hP hS
    rw [nx] at w
    exact lv_iload_n hx hb hd rfl (hls.at hr rfl) w
  case iload i =>
    have nx : nd (bp y) (pc + 1) = nd (bp y) pc + 2 := of_decide_eq_true hLn
    have hd := dec1 hd nx
    simp only [iLd] at hst
    split at hst
    case h_2 => exact hst.elim
    rename_i x hr
    have ok := hla _ (nth_mem _ _ _ hr)
    have w := hK _ _ _ _ hst hla (okL_cons hsa ok) hsi rfl _ _ _ hls hP hS
    rw [nx] at w
    exact lv_iload hx hb hd (hls.at hr rfl) w
  case lload_n i =>
    have nx : nd (bp y) (pc + 1) = nd (bp y) pc + 1 := of_decide_eq_true hLn
    have hd := dec1 hd nx
    simp only [lLd] at hst
    split at hst
    case h_2 => exact hst.elim
    rename_i x hr
    have ok := hla _ (nth_mem _ _ _ hr)
    have w := hK _ _ _ _ hst hla (okL_cons hsa ok) hsi rfl _ _ _ hls hP hS
    rw [nx] at w
    exact lv_lload_n hx hb hd rfl (hls.at hr rfl) w
  case lload i =>
    have nx : nd (bp y) (pc + 1) = nd (bp y) pc + 2 := of_decide_eq_true hLn
    have hd := dec1 hd nx
    simp only [lLd] at hst
    split at hst
    case h_2 => exact hst.elim
    rename_i x hr
    have ok := hla _ (nth_mem _ _ _ hr)
    have w := hK _ _ _ _ hst hla (okL_cons hsa ok) hsi rfl _ _ _ hls hP hS
    rw [nx] at w
    exact lv_lload hx hb hd (hls.at hr rfl) w
  case istore_n i =>
    have nx : nd (bp y) (pc + 1) = nd (bp y) pc + 1 := of_decide_eq_true hLn
    have hd := dec1 hd nx
    simp only [iSt] at hst
    split at hst
    case h_2 => exact hst.elim
    rename_i x st0
    have ok := okL_hd hsa
    obtain ⟨hi, hst⟩ := bif_t hst
    have hi := Nat.le_of_ble_eq_true hi
    obtain ⟨e1, l0, e2, e3⟩ := hls
    refine lv_istore_n hx hb hd rfl e2 (by rw [← e1]; exact hi) rfl fun ls' hl' => ?_
    have w := hK _ _ _ _ hst (okL_stl hla ok) (okL_tl hsa) hsi rfl _ _ _ (LR.set e1 e3 hl') hP hS
    rw [nx] at w
    exact w
  case istore i =>
    have nx : nd (bp y) (pc + 1) = nd (bp y) pc + 2 := of_decide_eq_true hLn
    have hd := dec1 hd nx
    simp only [iSt] at hst
    split at hst
    case h_2 => exact hst.elim
    rename_i x st0
    have ok := okL_hd hsa
    obtain ⟨hi, hst⟩ := bif_t hst
    have hi := Nat.le_of_ble_eq_true hi
    obtain ⟨e1, l0, e2, e3⟩ := hls
    refine lv_istore hx hb hd e2 (by rw [← e1]; exact hi) rfl fun ls' hl' => ?_
    have w := hK _ _ _ _ hst (okL_stl hla ok) (okL_tl hsa) hsi rfl _ _ _ (LR.set e1 e3 hl') hP hS
    rw [nx] at w
    exact w
  case astore_n i =>
    have nx : nd (bp y) (pc + 1) = nd (bp y) pc + 1 := of_decide_eq_true hLn
    have hd := dec1 hd nx
    simp only [aSt] at hst
    split at hst
    case h_2 => exact hst.elim
    rename_i r st0
    have ok := okL_hd hsa
    obtain ⟨hi, hst⟩ := bif_t hst
    have hi := Nat.le_of_ble_eq_true hi
    obtain ⟨e1, l0, e2, e3⟩ := hls
    rcases r with _ | ⟨t, i'⟩
    · refine nu_astore_n hx hb hd e2 (by rw [← e1]; exact hi) fun ls' hl' => ?_
      have w := hK _ _ _ _ hst (okL_stl hla ok) (okL_tl hsa) hsi rfl _ _ _ (LR.set (v := .inr (.inl none)) e1 e3 hl') hP hS
      rw [nx] at w
      exact w
    · refine lv_astore_n hx hb hd rfl e2 (by rw [← e1]; exact hi) rfl fun ls' hl' => ?_
      have w := hK _ _ _ _ hst (okL_stl hla ok) (okL_tl hsa) hsi rfl _ _ _ (LR.set (v := .inr (.inl (some (t, i')))) e1 e3 hl') hP hS
      rw [nx] at w
      exact w
  case astore i =>
    have nx : nd (bp y) (pc + 1) = nd (bp y) pc + 2 := of_decide_eq_true hLn
    have hd := dec1 hd nx
    simp only [aSt] at hst
    split at hst
    case h_2 => exact hst.elim
    rename_i r st0
    have ok := okL_hd hsa
    obtain ⟨hi, hst⟩ := bif_t hst
    have hi := Nat.le_of_ble_eq_true hi
    obtain ⟨e1, l0, e2, e3⟩ := hls
    rcases r with _ | ⟨t, i'⟩
    · refine nu_astore hx hb hd e2 (by rw [← e1]; exact hi) fun ls' hl' => ?_
      have w := hK _ _ _ _ hst (okL_stl hla ok) (okL_tl hsa) hsi rfl _ _ _ (LR.set (v := .inr (.inl none)) e1 e3 hl') hP hS
      rw [nx] at w
      exact w
    · refine lv_astore hx hb hd e2 (by rw [← e1]; exact hi) rfl fun ls' hl' => ?_
      have w := hK _ _ _ _ hst (okL_stl hla ok) (okL_tl hsa) hsi rfl _ _ _ (LR.set (v := .inr (.inl (some (t, i')))) e1 e3 hl') hP hS
      rw [nx] at w
      exact w
  case lstore_n i =>
    have nx : nd (bp y) (pc + 1) = nd (bp y) pc + 1 := of_decide_eq_true hLn
    have hd := dec1 hd nx
    simp only [lSt] at hst
    split at hst
    case h_2 => exact hst.elim
    rename_i x st0
    have ok := okL_hd hsa
    obtain ⟨hi, hst⟩ := bif_t hst
    have hi := Nat.le_of_ble_eq_true hi
    obtain ⟨e1, l0, e2, e3⟩ := hls
    refine lv_lstore_n hx hb hd rfl e2 (by rw [← e1]; exact hi) rfl fun ls' hl' => ?_
    have w := hK _ _ _ _ hst (okL_stl2 (okL_stl hla ok)) (okL_tl hsa) hsi rfl _ _ _ (LR.setL (v := vl x) e1 e3 hl') hP hS
    rw [nx] at w
    exact w
  case lstore i =>
    have nx : nd (bp y) (pc + 1) = nd (bp y) pc + 2 := of_decide_eq_true hLn
    have hd := dec1 hd nx
    simp only [lSt] at hst
    split at hst
    case h_2 => exact hst.elim
    rename_i x st0
    have ok := okL_hd hsa
    obtain ⟨hi, hst⟩ := bif_t hst
    have hi := Nat.le_of_ble_eq_true hi
    obtain ⟨e1, l0, e2, e3⟩ := hls
    refine lv_lstore hx hb hd e2 (by rw [← e1]; exact hi) rfl fun ls' hl' => ?_
    have w := hK _ _ _ _ hst (okL_stl2 (okL_stl hla ok)) (okL_tl hsa) hsi rfl _ _ _ (LR.setL (v := vl x) e1 e3 hl') hP hS
    rw [nx] at w
    exact w
  case iconst n =>
    have nx : nd (bp y) (pc + 1) = nd (bp y) pc + 1 := of_decide_eq_true hLn
    have hd := dec1 hd nx
    have ok : ir n := by have h : _ ∧ _ := of_decide_eq_true hCk; unfold ir; omega
    have w := hK _ _ _ _ hst hla (okL_cons hsa ok) hsi rfl _ _ _ hls hP hS
    rw [nx] at w
    exact lv_iconst hx hb hd rfl w
  case bipush n =>
    have nx : nd (bp y) (pc + 1) = nd (bp y) pc + 2 := of_decide_eq_true hLn
    have hd := dec1 hd nx
    have ok : ir n := by have h : _ ∧ _ := of_decide_eq_true hCk; unfold ir; omega
    have w := hK _ _ _ _ hst hla (okL_cons hsa ok) hsi rfl _ _ _ hls hP hS
    rw [nx] at w
    exact lv_bipush hx hb hd (i8_oi (of_decide_eq_true hCk)) w
  case sipush n =>
    have nx : nd (bp y) (pc + 1) = nd (bp y) pc + 3 := of_decide_eq_true hLn
    have hd := dec1 hd nx
    have ok : ir n := by have h : _ ∧ _ := of_decide_eq_true hCk; unfold ir; omega
    have w := hK _ _ _ _ hst hla (okL_cons hsa ok) hsi rfl _ _ _ hls hP hS
    rw [nx] at w
    exact lv_sipush hx hb hd (i16_oi (of_decide_eq_true hCk)) w
  case ldc n =>
    have nx : nd (bp y) (pc + 1) = nd (bp y) pc + 2 := of_decide_eq_true hLn
    have hd := dec1 hd nx
    obtain ⟨h1, h2⟩ := lkc_at hCk
    have w := hK _ _ _ _ hst hla (okL_cons hsa h2) hsi rfl _ _ _ hls hP hS
    rw [nx] at w
    exact lv_ldc hx hb hown (hts _ (uw_mem h1 rfl)) hd w
  case ldc2_w n =>
    have nx : nd (bp y) (pc + 1) = nd (bp y) pc + 3 := of_decide_eq_true hLn
    have hd := dec1 hd nx
    obtain ⟨h1, h2⟩ := lkl_at hCk
    have w := hK _ _ _ _ hst hla (okL_cons (v := vl z) hsa (il_ir h2)) hsi rfl _ _ _ hls hP hS
    rw [nx] at w
    exact lv_ldc2 hx hb hown (hts _ (uw_mem h1 rfl)) hd w
  case lconst n =>
    have nx : nd (bp y) (pc + 1) = nd (bp y) pc + 1 := of_decide_eq_true hLn
    have hd := dec1 hd nx
    have ez : z = ((n : Nat) : Int) := of_decide_eq_true hCk
    subst ez
    have ok : il ((n : Nat) : Int) := by have := n.2; unfold il; omega
    have w := hK _ _ _ _ hst hla (okL_cons (v := vl _) hsa ok) hsi rfl _ _ _ hls hP hS
    rw [nx] at w
    exact lv_lconst hx hb hd rfl w
  case aconst_null  =>
    have nx : nd (bp y) (pc + 1) = nd (bp y) pc + 1 := of_decide_eq_true hLn
    have hd := dec1 hd nx
    have w := hK _ _ _ _ hst hla (okL_cons (v := vz) hsa trivial) hsi rfl _ _ _ hls hP hS
    rw [nx] at w
    exact lv_null hx hb hd w
  case iadd  =>
    have nx : nd (bp y) (pc + 1) = nd (bp y) pc + 1 := of_decide_eq_true hLn
    have hd := dec1 hd nx
    split at hst
    case h_2 => exact hst.elim
    rename_i y0 x0 st0
    have hy0 : ir y0 := okL_hd hsa
    have hx0 : ir x0 := okL_hd (okL_tl hsa)
    have w := hK _ _ _ _ hst.2 hla (okL_cons (okL_tl (okL_tl hsa)) hst.1) hsi rfl _ _ _ hls hP hS
    rw [nx] at w
    refine lv_iadd hx hb hd ?_
    rw [← Int32.ofInt_add]
    exact w
  case isub  =>
    have nx : nd (bp y) (pc + 1) = nd (bp y) pc + 1 := of_decide_eq_true hLn
    have hd := dec1 hd nx
    split at hst
    case h_2 => exact hst.elim
    rename_i y0 x0 st0
    have hy0 : ir y0 := okL_hd hsa
    have hx0 : ir x0 := okL_hd (okL_tl hsa)
    have w := hK _ _ _ _ hst.2 hla (okL_cons (okL_tl (okL_tl hsa)) hst.1) hsi rfl _ _ _ hls hP hS
    rw [nx] at w
    refine lv_isub hx hb hd ?_
    rw [← Int32.ofInt_sub]
    exact w
  case imul  =>
    have nx : nd (bp y) (pc + 1) = nd (bp y) pc + 1 := of_decide_eq_true hLn
    have hd := dec1 hd nx
    split at hst
    case h_2 => exact hst.elim
    rename_i y0 x0 st0
    have hy0 : ir y0 := okL_hd hsa
    have hx0 : ir x0 := okL_hd (okL_tl hsa)
    have w := hK _ _ _ _ hst.2 hla (okL_cons (okL_tl (okL_tl hsa)) hst.1) hsi rfl _ _ _ hls hP hS
    rw [nx] at w
    refine lv_imul hx hb hd ?_
    rw [← Int32.ofInt_mul]
    exact w
  case idiv  =>
    have nx : nd (bp y) (pc + 1) = nd (bp y) pc + 1 := of_decide_eq_true hLn
    have hd := dec1 hd nx
    split at hst
    case h_2 => exact hst.elim
    rename_i y0 x0 st0
    have hy0 : ir y0 := okL_hd hsa
    have hx0 : ir x0 := okL_hd (okL_tl hsa)
    have w := hK _ _ _ _ hst.2 hla (okL_cons (okL_tl (okL_tl hsa)) (ir_div hx0 hst.1)) hsi rfl _ _ _ hls hP hS
    rw [nx] at w
    refine lv_idiv hx hb hd (fun q => by rw [oi_0, oi_eq hy0 ir_0] at q; have := hst.1; omega) ?_
    rw [oi_div hx0 hy0 hst.1]
    exact w
  case irem  =>
    have nx : nd (bp y) (pc + 1) = nd (bp y) pc + 1 := of_decide_eq_true hLn
    have hd := dec1 hd nx
    split at hst
    case h_2 => exact hst.elim
    rename_i y0 x0 st0
    have hy0 : ir y0 := okL_hd hsa
    have hx0 : ir x0 := okL_hd (okL_tl hsa)
    have w := hK _ _ _ _ hst.2 hla (okL_cons (okL_tl (okL_tl hsa)) (ir_mod hy0 hst.1)) hsi rfl _ _ _ hls hP hS
    rw [nx] at w
    refine lv_irem hx hb hd (fun q => by rw [oi_0, oi_eq hy0 ir_0] at q; have := hst.1; omega) ?_
    rw [oi_rem hx0 hy0 hst.1]
    exact w
  case ior  =>
    have nx : nd (bp y) (pc + 1) = nd (bp y) pc + 1 := of_decide_eq_true hLn
    have hd := dec1 hd nx
    split at hst
    case h_2 => exact hst.elim
    rename_i y0 x0 st0
    have hy0 : ir y0 := okL_hd hsa
    have hx0 : ir x0 := okL_hd (okL_tl hsa)
    have w := hK _ _ _ _ hst.2 hla (okL_cons (okL_tl (okL_tl hsa)) (ir_or hx0 hy0)) hsi rfl _ _ _ hls hP hS
    rw [nx] at w
    refine lv_ior hx hb hd ?_
    rw [oi_or hx0 hy0 hst.1]
    exact w
  case iand  =>
    have nx : nd (bp y) (pc + 1) = nd (bp y) pc + 1 := of_decide_eq_true hLn
    have hd := dec1 hd nx
    split at hst
    case h_3 => exact hst.elim
    case h_1 q0 y0 x0 st0 hq =>
      have hy0 : ir y0 := okL_hd hsa
      have hx0 : ir x0 := okL_hd (okL_tl hsa)
      obtain ⟨rfl, hst⟩ := hst
      have w := hK _ _ _ _ hst hla (okL_cons (okL_tl (okL_tl hsa)) (show ir (x0 % 32) by unfold ir; omega)) hsi rfl _ _ _ hls hP hS
      rw [nx] at w
      refine lv_iand hx hb hd ?_
      rw [oi_31 hx0]
      exact w
    case h_2 y0 x0 st0 hq =>
      have hy0 : ir y0 := okL_hd hsa
      have hx0 : ir x0 := okL_hd (okL_tl hsa)
      have w := hK _ _ _ _ hst.2 hla (okL_cons (okL_tl (okL_tl hsa)) (ir_and (y := y0) hx0)) hsi rfl _ _ _ hls hP hS
      rw [nx] at w
      refine lv_iand hx hb hd ?_
      rw [oi_and hx0 hy0 hst.1]
      exact w
  case ladd  =>
    have nx : nd (bp y) (pc + 1) = nd (bp y) pc + 1 := of_decide_eq_true hLn
    have hd := dec1 hd nx
    split at hst
    case h_2 => exact hst.elim
    rename_i y0 x0 st0
    have hy0 : il y0 := okL_hd (v := vl y0) hsa
    have hx0 : il x0 := okL_hd (v := vl x0) (okL_tl hsa)
    have w := hK _ _ _ _ hst.2 hla (okL_cons (v := vl _) (okL_tl (okL_tl hsa)) hst.1) hsi rfl _ _ _ hls hP hS
    rw [nx] at w
    refine lv_ladd hx hb hd ?_
    rw [← Int64.ofInt_add]
    exact w
  case lsub  =>
    have nx : nd (bp y) (pc + 1) = nd (bp y) pc + 1 := of_decide_eq_true hLn
    have hd := dec1 hd nx
    split at hst
    case h_2 => exact hst.elim
    rename_i y0 x0 st0
    have hy0 : il y0 := okL_hd (v := vl y0) hsa
    have hx0 : il x0 := okL_hd (v := vl x0) (okL_tl hsa)
    have w := hK _ _ _ _ hst.2 hla (okL_cons (v := vl _) (okL_tl (okL_tl hsa)) hst.1) hsi rfl _ _ _ hls hP hS
    rw [nx] at w
    refine lv_lsub hx hb hd ?_
    rw [← Int64.ofInt_sub]
    exact w
  case lmul  =>
    have nx : nd (bp y) (pc + 1) = nd (bp y) pc + 1 := of_decide_eq_true hLn
    have hd := dec1 hd nx
    split at hst
    case h_2 => exact hst.elim
    rename_i y0 x0 st0
    have hy0 : il y0 := okL_hd (v := vl y0) hsa
    have hx0 : il x0 := okL_hd (v := vl x0) (okL_tl hsa)
    have w := hK _ _ _ _ hst.2 hla (okL_cons (v := vl _) (okL_tl (okL_tl hsa)) hst.1) hsi rfl _ _ _ hls hP hS
    rw [nx] at w
    refine lv_lmul hx hb hd ?_
    rw [← Int64.ofInt_mul]
    exact w
  case ldiv  =>
    have nx : nd (bp y) (pc + 1) = nd (bp y) pc + 1 := of_decide_eq_true hLn
    have hd := dec1 hd nx
    split at hst
    case h_2 => exact hst.elim
    rename_i y0 x0 st0
    have hy0 : il y0 := okL_hd (v := vl y0) hsa
    have hx0 : il x0 := okL_hd (v := vl x0) (okL_tl hsa)
    have w := hK _ _ _ _ hst.2 hla (okL_cons (v := vl _) (okL_tl (okL_tl hsa)) (il_div hx0 hst.1)) hsi rfl _ _ _ hls hP hS
    rw [nx] at w
    refine lv_ldiv hx hb hd (fun q => by rw [show (0 : Int64) = Int64.ofInt 0 from rfl, ol_eq hy0 (by unfold il; omega)] at q; have := hst.1; omega) ?_
    rw [ol_div hx0 hy0 hst.1]
    exact w
  case lrem  =>
    have nx : nd (bp y) (pc + 1) = nd (bp y) pc + 1 := of_decide_eq_true hLn
    have hd := dec1 hd nx
    split at hst
    case h_2 => exact hst.elim
    rename_i y0 x0 st0
    have hy0 : il y0 := okL_hd (v := vl y0) hsa
    have hx0 : il x0 := okL_hd (v := vl x0) (okL_tl hsa)
    have w := hK _ _ _ _ hst.2 hla (okL_cons (v := vl _) (okL_tl (okL_tl hsa)) (il_mod hy0 hst.1)) hsi rfl _ _ _ hls hP hS
    rw [nx] at w
    refine lv_lrem hx hb hd (fun q => by rw [show (0 : Int64) = Int64.ofInt 0 from rfl, ol_eq hy0 (by unfold il; omega)] at q; have := hst.1; omega) ?_
    rw [ol_rem hx0 hy0 hst.1]
    exact w
  case land  =>
    have nx : nd (bp y) (pc + 1) = nd (bp y) pc + 1 := of_decide_eq_true hLn
    have hd := dec1 hd nx
    split at hst
    case h_2 => exact hst.elim
    rename_i y0 x0 st0
    obtain ⟨⟨h0, rfl⟩, hst⟩ := hst
    have hx0 : il x0 := okL_hd (v := vl x0) (okL_tl hsa)
    have w := hK _ _ _ _ hst hla (okL_cons (v := vl _) (okL_tl (okL_tl hsa)) (show il (x0 % 2) by unfold il; omega)) hsi rfl _ _ _ hls hP hS
    rw [nx] at w
    refine lv_land hx hb hd ?_
    rw [ol_and1 hx0 h0]
    exact w
  case lshl  =>
    have nx : nd (bp y) (pc + 1) = nd (bp y) pc + 1 := of_decide_eq_true hLn
    have hd := dec1 hd nx
    split at hst
    case h_2 => exact hst.elim
    rename_i y0 x0 st0
    obtain ⟨⟨h0, rfl, h1⟩, hst⟩ := hst
    have w := hK _ _ _ _ hst hla (okL_cons (v := vl _) (okL_tl (okL_tl hsa)) h1) hsi rfl _ _ _ hls hP hS
    rw [nx] at w
    exact lv_lshl hx hb hd (ol_shl h1 h0) w
  case i2l  =>
    have nx : nd (bp y) (pc + 1) = nd (bp y) pc + 1 := of_decide_eq_true hLn
    have hd := dec1 hd nx
    split at hst
    case h_2 => exact hst.elim
    rename_i x0 st0
    have hx0 : ir x0 := okL_hd hsa
    have w := hK _ _ _ _ hst hla (okL_cons (v := vl _) (okL_tl hsa) (il_ir hx0)) hsi rfl _ _ _ hls hP hS
    rw [nx] at w
    exact lv_i2l hx hb hd (oi_l hx0) w
  case l2i  =>
    have nx : nd (bp y) (pc + 1) = nd (bp y) pc + 1 := of_decide_eq_true hLn
    have hd := dec1 hd nx
    split at hst
    case h_2 => exact hst.elim
    rename_i x0 st0
    have w := hK _ _ _ _ hst.2 hla (okL_cons (okL_tl hsa) hst.1) hsi rfl _ _ _ hls hP hS
    rw [nx] at w
    exact lv_l2i hx hb hd (ol_i hst.1) w
  case lcmp  =>
    have nx : nd (bp y) (pc + 1) = nd (bp y) pc + 1 := of_decide_eq_true hLn
    have hd := dec1 hd nx
    split at hst
    case h_2 => exact hst.elim
    rename_i y0 x0 st0
    have hy0 : il y0 := okL_hd (v := vl y0) hsa
    have hx0 : il x0 := okL_hd (v := vl x0) (okL_tl hsa)
    have w := hK _ _ _ _ hst hla (okL_cons (okL_tl (okL_tl hsa)) (ir_lc x0 y0)) hsi rfl _ _ _ hls hP hS
    rw [nx] at w
    refine W.lcmp hx hb hd ?_
    rw [ol_cmp hx0 hy0]
    exact w
  case dup  =>
    have nx : nd (bp y) (pc + 1) = nd (bp y) pc + 1 := of_decide_eq_true hLn
    have hd := dec1 hd nx
    split at hst
    case h_3 => exact hst.elim
    case h_1 x0 st0 =>
      have w := hK _ _ _ _ hst hla (okL_cons hsa (okL_hd hsa)) hsi rfl _ _ _ hls hP hS
      rw [nx] at w
      exact lv_dup hx hb hd rfl w
    case h_2 r st0 =>
      have w := hK _ _ _ _ hst hla (okL_cons hsa (okL_hd hsa)) hsi rfl _ _ _ hls hP hS
      rw [nx] at w
      rcases r with _ | ⟨t, i'⟩ <;> exact lv_dup hx hb hd rfl w
  case dup2  =>
    have nx : nd (bp y) (pc + 1) = nd (bp y) pc + 1 := of_decide_eq_true hLn
    have hd := dec1 hd nx
    split at hst
    case h_2 => exact hst.elim
    rename_i x0 r st0
    have w := hK _ _ _ _ hst hla (okL_cons (okL_cons hsa (okL_hd (okL_tl hsa))) (okL_hd hsa)) hsi rfl _ _ _ hls hP hS
    rw [nx] at w
    rcases r with _ | ⟨t, i'⟩ <;> exact lv_dup2_11 hx hb hd rfl rfl w
  case iinc i n =>
    have nx : nd (bp y) (pc + 1) = nd (bp y) pc + 3 := of_decide_eq_true hLn
    have hd := dec1 hd nx
    split at hst
    case h_2 => exact hst.elim
    rename_i x0 hr
    have g := hls.at hr rfl
    have hi := nth_lt _ _ _ hr
    obtain ⟨e1, l0, e2, e3⟩ := hls
    obtain ⟨k, hk⟩ := List.getElem?_of_mem (e3 _ _ hr rfl)
    refine lv_iinc (v := Int32.ofInt (x0 + n)) hx hb hd e2 hk (by rw [Int32.ofInt_add]) (by rw [← e1]; exact hi) rfl fun ls' hl' => ?_
    have w := hK _ _ _ _ hst.2 (okL_stl hla hst.1) hsa hsi rfl _ _ _ (LR.set (v := .inl (x0 + n)) e1 e3 hl') hP hS
    rw [nx] at w
    exact w
  case if_icmp cc off =>
    have nx : nd (bp y) (pc + 1) = nd (bp y) pc + 3 := of_decide_eq_true hLn
    have hd := dec1 hd nx
    split at hst
    case h_2 => exact hst.elim
    rename_i t y0 x0 st0 hq
    have hy0 : ir y0 := okL_hd hsa
    have hx0 : ir x0 := okL_hd (okL_tl hsa)
    have hT2 : (nd (bp y) pc : Int) + off = (nd (bp y) t : Int) := of_decide_eq_true hT
    have okt := okL_tl (okL_tl hsa)
    have kA : K t la st0 σ → W p l e₀ R s m args below meth c H locs cells slots Q (F0 m (nd (bp y) t) ls (st0.map (cv N0 b))) := fun q => hK _ _ _ _ q hla okt hsi rfl _ _ _ hls hP hS
    have kB : K (pc + 1) la st0 σ → W p l e₀ R s m args below meth c H locs cells slots Q (F0 m (nd (bp y) pc + 3) ls (st0.map (cv N0 b))) := fun q => nx ▸ hK _ _ _ _ q hla okt hsi rfl _ _ _ hls hP hS
    cases cc <;> simp only [cnd] at hst
    · exact lv_icmp_eq hx hb hd hT2 (fun q => kA (hst.1 ((oi_eq hx0 hy0).mp q))) (fun q => kB (hst.2 (fun z => q ((oi_eq hx0 hy0).mpr z))))
    · exact lv_icmp_ne hx hb hd hT2 (fun q => kA (hst.1 (fun z => q ((oi_eq hx0 hy0).mpr z)))) (fun q => kB (hst.2 ((oi_eq hx0 hy0).mp (by first | exact q | exact Decidable.of_not_not q))))
    · exact lv_icmp_lt hx hb hd hT2 (fun q => kA (hst.1 ((oi_lt hx0 hy0).mp q))) (fun q => kB (hst.2 (Int.not_lt.mp (fun z => q ((oi_lt hx0 hy0).mpr z)))))
    · exact lv_icmp_ge hx hb hd hT2 (fun q => kA (hst.1 ((oi_le hy0 hx0).mp q))) (fun q => kB (hst.2 (Int.not_le.mp (fun z => q ((oi_le hy0 hx0).mpr z)))))
    · exact lv_icmp_gt hx hb hd hT2 (fun q => kA (hst.1 ((oi_lt hy0 hx0).mp q))) (fun q => kB (hst.2 (Int.not_lt.mp (fun z => q ((oi_lt hy0 hx0).mpr z)))))
    · exact lv_icmp_le hx hb hd hT2 (fun q => kA (hst.1 ((oi_le hx0 hy0).mp q))) (fun q => kB (hst.2 (Int.not_le.mp (fun z => q ((oi_le hx0 hy0).mpr z)))))
  case ifCond cc off =>
    have nx : nd (bp y) (pc + 1) = nd (bp y) pc + 3 := of_decide_eq_true hLn
    have hd := dec1 hd nx
    split at hst
    case h_2 => exact hst.elim
    rename_i t x0 st0 hq
    have hy0 : ir 0 := ir_0
    have hx0 : ir x0 := okL_hd hsa
    have hT2 : (nd (bp y) pc : Int) + off = (nd (bp y) t : Int) := of_decide_eq_true hT
    have okt := okL_tl hsa
    have kA : K t la st0 σ → W p l e₀ R s m args below meth c H locs cells slots Q (F0 m (nd (bp y) t) ls (st0.map (cv N0 b))) := fun q => hK _ _ _ _ q hla okt hsi rfl _ _ _ hls hP hS
    have kB : K (pc + 1) la st0 σ → W p l e₀ R s m args below meth c H locs cells slots Q (F0 m (nd (bp y) pc + 3) ls (st0.map (cv N0 b))) := fun q => nx ▸ hK _ _ _ _ q hla okt hsi rfl _ _ _ hls hP hS
    cases cc <;> simp only [cnd] at hst
    · exact lv_if_eq hx hb hd hT2 (fun q => kA (hst.1 ((oi_eq hx0 hy0).mp q))) (fun q => kB (hst.2 (fun z => q ((oi_eq hx0 hy0).mpr z))))
    · exact lv_if_ne hx hb hd hT2 (fun q => kA (hst.1 (fun z => q ((oi_eq hx0 hy0).mpr z)))) (fun q => kB (hst.2 ((oi_eq hx0 hy0).mp (by first | exact q | exact Decidable.of_not_not q))))
    · exact lv_if_lt hx hb hd hT2 (fun q => kA (hst.1 ((oi_lt hx0 hy0).mp q))) (fun q => kB (hst.2 (Int.not_lt.mp (fun z => q ((oi_lt hx0 hy0).mpr z)))))
    · exact lv_if_ge hx hb hd hT2 (fun q => kA (hst.1 ((oi_le hy0 hx0).mp q))) (fun q => kB (hst.2 (Int.not_le.mp (fun z => q ((oi_le hy0 hx0).mpr z)))))
    · exact lv_if_gt hx hb hd hT2 (fun q => kA (hst.1 ((oi_lt hy0 hx0).mp q))) (fun q => kB (hst.2 (Int.not_lt.mp (fun z => q ((oi_lt hy0 hx0).mpr z)))))
    · exact lv_if_le hx hb hd hT2 (fun q => kA (hst.1 ((oi_le hx0 hy0).mp q))) (fun q => kB (hst.2 (Int.not_le.mp (fun z => q ((oi_le hx0 hy0).mpr z)))))
  case ifnull off =>
    have nx : nd (bp y) (pc + 1) = nd (bp y) pc + 3 := of_decide_eq_true hLn
    have hd := dec1 hd nx
    split at hst
    case h_3 => exact hst.elim
    case h_1 t st0 hq =>
      have hT2 : (nd (bp y) pc : Int) + off = (nd (bp y) t : Int) := of_decide_eq_true hT
      have w := hK _ _ _ _ hst hla (okL_tl hsa) hsi rfl _ _ _ hls hP hS
      exact lv_ifnullN hx hb hd hT2 w
    case h_2 t r st0 hq =>
      have w := hK _ _ _ _ hst hla (okL_tl hsa) hsi rfl _ _ _ hls hP hS
      rw [nx] at w
      exact lv_ifnull hx hb hd w
  case ifnonnull off =>
    have nx : nd (bp y) (pc + 1) = nd (bp y) pc + 3 := of_decide_eq_true hLn
    have hd := dec1 hd nx
    split at hst
    case h_3 => exact hst.elim
    case h_1 t st0 hq =>
      have w := hK _ _ _ _ hst hla (okL_tl hsa) hsi rfl _ _ _ hls hP hS
      rw [nx] at w
      exact lv_ifnonnullN hx hb hd w
    case h_2 t r st0 hq =>
      have hT2 : (nd (bp y) pc : Int) + off = (nd (bp y) t : Int) := of_decide_eq_true hT
      have w := hK _ _ _ _ hst hla (okL_tl hsa) hsi rfl _ _ _ hls hP hS
      exact lv_ifnonnull hx hb hd hT2 w
  case goto off =>
    have nx : nd (bp y) (pc + 1) = nd (bp y) pc + 3 := of_decide_eq_true hLn
    have hd := dec1 hd nx
    split at hst
    case h_2 => exact hst.elim
    rename_i t hq
    have hT2 : (nd (bp y) pc : Int) + off = (nd (bp y) t : Int) := of_decide_eq_true hT
    have w := hK _ _ _ _ hst hla hsa hsi rfl _ _ _ hls hP hS
    exact lv_goto hx hb hd hT2 w
  case tableswitch dflt lo hi offs =>
    rcases ns with _ | ⟨t, ts⟩
    · exact False.elim hst
    rcases sa with _ | ⟨v0, st0⟩
    · exact False.elim hst
    rcases v0 with x0 | v0
    case inr => exact False.elim hst
    have hx0 : ir x0 := okL_hd hsa
    have hT : (tgt (bp y) pc dflt t && tgs (bp y) pc offs.toList ts && decide ((offs.toList.length : Int) = hi - lo + 1)) = true := hT
    simp only [Bool.and_eq_true, decide_eq_true_eq] at hT
    by_cases h : x0 < lo ∨ hi < x0
    · have w := hK _ _ _ _ (hst.1 h) hla (okL_tl hsa) hsi rfl _ _ _ hls hP hS
      exact lv_tableOut hx hb hd (by rw [oi_to hx0]; exact h) (of_decide_eq_true hT.1.1) w
    · have e1 : 0 ≤ x0 - lo := by omega
      obtain ⟨g1, g2⟩ := tgs_at _ _ hT.1.2
      have e2 : (x0 - lo).toNat < offs.toList.length := by omega
      obtain ⟨t1, k1, k2⟩ := g2 _ _ (List.getElem?_eq_getElem e2)
      have w := hK _ _ _ _ (tsw_at _ _ hst.2 _ _ k1 (by omega)) hla (okL_tl hsa) hsi rfl _ _ _ hls hP hS
      refine lv_tableIn hx hb hd (by rw [oi_to hx0]; omega) (by rw [oi_to hx0]; omega) (by rw [oi_to hx0, ← Array.getElem?_toList]; exact List.getElem?_eq_getElem e2) k2 w
  case lookupswitch dflt ps =>
    rcases ns with _ | ⟨t, ts⟩
    · exact False.elim hst
    rcases sa with _ | ⟨v0, st0⟩
    · exact False.elim hst
    rcases v0 with x0 | v0
    case inr => exact False.elim hst
    have hx0 : ir x0 := okL_hd hsa
    have hT : (tgt (bp y) pc dflt t && tgs (bp y) pc (ps.toList.map (fun q => q.2)) ts && (ps.toList.zip (ps.toList.drop 1)).all (fun (a, next) => a.1 < next.1)) = true := hT
    simp only [Bool.and_eq_true] at hT
    obtain ⟨o1, t1, k1, k2, k3⟩ := lsw_at (of_decide_eq_true hT.1.1) _ _ hT.1.2 hst.1 hst.2
    have w := hK _ _ _ _ k3 hla (okL_tl hsa) hsi rfl _ _ _ hls hP hS
    exact lv_lookup hx hb hd hT.2 (by rw [oi_to hx0]; exact k1) k2 w
  case getfield n =>
    have nx : nd (bp y) (pc + 1) = nd (bp y) pc + 3 := of_decide_eq_true hLn
    have hd := dec1 hd nx
    split at hst
    case h_2 => exact hst.elim
    rename_i c0 k0 q0 t i st0 hq
    obtain ⟨hc, hst2⟩ := bif_t hst
    clear hst
    have hc := beq_t hc
    obtain ⟨g0, rfl⟩ := lkf_get hCk
    obtain ⟨g1, g2, g3, g4, g5, g6, g7⟩ := lkf_use g0
    subst hc
    have ht : t ≠ 99 := fun z => by rw [z, cls_99] at g3; omega
    have hv := ok_vd (okL_hd hsa) ht
    have hv2 := vd_nat hv
    have hlt := vd_lt hv
    have he := wsO_at (cA := cA) (N0 := N0) (σ := σ) hv2.1
    rw [cE_obj g3 (by omega), hv2.2] at he
    obtain ⟨r1, r2⟩ := rf_kind (by omega) g3 g2
    have key : W p l e₀ R s m args below meth c H locs cells slots Q (F0 m (nd (bp y) pc + 3) ls (fV N0 (σ t i) t i.toNat k0 :: st0.map (cv N0 b))) := by
      split at hst2
      · have hne : rf t k0 ≠ 0 := fun z => by
          have := r1.mp z
          simp only [tyq, Bool.and_eq_true, Bool.not_eq_true'] at g5
          simp only [isI, Bool.or_eq_true] at this
          have e5 : (fq (cls t) k0).2.2.1 = ((kc (cls t - 1)).2.1 k0).2.2.1 := rfl
          rw [e5] at g5
          rcases this with q | q
          · rw [g5.1] at q; cases q
          · rw [g5.2] at q; cases q
        have hcnt := r2 hne
        have hv3 : vd (rf t k0) i := by unfold vd at hv ⊢; rw [hcnt]; exact hv
        have hne9 : rf t k0 ≠ 99 := by have := vd_lt hv3; omega
        have w := hK _ _ _ _ hst2 hla (okL_cons (okL_tl hsa) (Or.inr ⟨hne9, hv3⟩)) hsi rfl _ _ _ hls hP hS
        rw [nx] at w
        have e : fV N0 (σ t i) t i.toNat k0 = cv N0 b (vr (rf t k0) i) := by
          simp only [fV, cv, adr_ne hne9]
          split
          · rename_i z; exact absurd z hne
          · rename_i r z; rw [z]
        rw [e]
        exact w
      · rename_i hq2
        have h0 : rf t k0 = 0 := r1.mpr (by
          have e5 : (fq (cls t) k0).2.2.1 = ((kc (cls t - 1)).2.1 k0).2.2.1 := rfl
          rw [e5] at g5
          rcases q0 with _ | _ | q0
          · simp only [isI, Bool.or_eq_true]; exact Or.inl g5
          · simp only [isI, Bool.or_eq_true]; exact Or.inr g5
          · have hz : ∀ q, lkf.all (fun e => decide (e.2.2.2.2.1 < 3)) = true → q ∈ lkf → q.2.2.2.2.1 < 3 := fun q h1 h2 => of_decide_eq_true (List.all_eq_true.mp h1 q h2)
            obtain ⟨e', he', hc'⟩ := List.any_eq_true.mp g0
            simp only [Bool.and_eq_true, decide_eq_true_eq] at hc'
            have := hz _ (by decide +kernel) he'
            exact absurd (show q0 + 2 = 2 by omega) (by intro z; exact hq2 z))
        have w := hK _ _ _ _ hst2 hla (okL_cons (okL_tl hsa) (hsi.1 _ _ _)) hsi rfl _ _ _ hls hP hS
        rw [nx] at w
        have e : fV N0 (σ t i) t i.toNat k0 = cv N0 b (.inl (σ t i k0)) := by
          simp only [fV, cv, h0]
        rw [e]
        exact w
    have hsame : ∀ x, s.fieldFound? ((kc (cls t - 1)).2.1 k0).1 ((kc (cls t - 1)).2.1 k0).2.1 ((kc (cls t - 1)).2.1 k0).2.2.1 = some x → s.fieldFound? (kc (cls t - 1)).1 ((kc (cls t - 1)).2.1 k0).2.1 ((kc (cls t - 1)).2.1 k0).2.2.1 = some x := by
      intro x hx'
      have e6 : ((kc (cls t - 1)).2.1 k0).1 = (kc (cls t - 1)).1 := g6
      rw [e6] at hx'; exact hx'
    have := va_get (D := D) (ci := cls t - 1) (C := (kc (cls t - 1)).1) (T := (kc (cls t - 1)).2.1) (N := (kc (cls t - 1)).2.2) (rest := st0.map (cv N0 b)) hx hb hts (uw_lay (by omega)) hown hKs hP (ad t i.toNat) he (kc_at (by omega)) k0 g2 (hts _ (uw_mem g1 rfl)) hsame (v := fV N0 (σ t i) t i.toNat k0) (by simp [g2]) hd key
    have e : cv N0 b (.inr (.inl (some (t, i)))) = .ref (N0 + ad t i.toNat) := by simp only [cv, adr_ne ht]
    rw [List.map_cons, e]
    exact this
  case putfield n =>
    have nx : nd (bp y) (pc + 1) = nd (bp y) pc + 3 := of_decide_eq_true hLn
    have hd := dec1 hd nx
    split at hst
    case h_2 => exact hst.elim
    rename_i c0 k0 q0 x0 t i st0 hq
    obtain ⟨hc, hst2⟩ := bif_t hst
    clear hst
    have hc := beq_t hc
    obtain ⟨g0, rfl⟩ := lkf_put hCk
    obtain ⟨g1, g2, g3, g4, g5, g6, g7⟩ := lkf_use g0
    subst hc
    have hx0 : ir x0 := okL_hd hsa
    have ht : t ≠ 99 := fun z => by rw [z, cls_99] at g3; omega
    have hv := ok_vd (okL_hd (okL_tl hsa)) ht
    have hv2 := vd_nat hv
    have hlt := vd_lt hv
    have he := wsO_at (cA := cA) (N0 := N0) (σ := σ) hv2.1
    rw [cE_obj g3 (by omega), hv2.2] at he
    obtain ⟨r1, r2⟩ := rf_kind (by omega) g3 g2
    have hsame : ∀ x, s.fieldFound? ((kc (cls t - 1)).2.1 k0).1 ((kc (cls t - 1)).2.1 k0).2.1 ((kc (cls t - 1)).2.1 k0).2.2.1 = some x → s.fieldFound? (kc (cls t - 1)).1 ((kc (cls t - 1)).2.1 k0).2.1 ((kc (cls t - 1)).2.1 k0).2.2.1 = some x := by
      intro x hx'
      have e6 : ((kc (cls t - 1)).2.1 k0).1 = (kc (cls t - 1)).1 := g6
      rw [e6] at hx'; exact hx'
    have e5 : (fq (cls t) k0).2.2.1 = ((kc (cls t - 1)).2.1 k0).2.2.1 := rfl
    rw [e5] at g5
    have key : ∀ (ty : FieldType), K (pc + 1) la st0 (up σ t i (k0 : Int) x0) → isI ((kc (cls t - 1)).2.1 k0).2.2.1 = true → q0 ≠ 2 → parseFieldDescriptor ((kc (cls t - 1)).2.1 k0).2.2.1 = some ty → narrow ty (.int (Int32.ofInt x0)) = .int (Int32.ofInt x0) → fits ty (.int (Int32.ofInt x0)) = true → W p l e₀ R s m args below meth c H locs cells slots Q (F0 m (nd (bp y) pc) ls (.int (Int32.ofInt x0) :: .ref (N0 + ad t i.toNat) :: st0.map (cv N0 b))) := by
      intro ty hst hI hq2 hp hn hf
      have hfin : ((kc (cls t - 1)).2.1 k0).2.2.2 = false := by
        rcases g7 with g7 | g7
        · exact absurd g7 hq2
        · exact g7
      have h0 := r1.mpr hI
      have hsu := SI_up (t := t) (i := i) (j := (k0 : Int)) hsi hx0 ht
      refine va_put (D := D) (ci := cls t - 1) (C := (kc (cls t - 1)).1) (T := (kc (cls t - 1)).2.1) (N := (kc (cls t - 1)).2.2) (rest := st0.map (cv N0 b)) hx hb hts (uw_lay (by omega)) (ty0 (cls t - 1)) (tyq_all (by omega)) (nmq_all (by omega)) hown hKs hP (wsO_D σ) hS (ad t i.toNat) he (kc_at (by omega)) k0 g2 (hts _ (uw_mem g1 rfl)) hsame hfin hp hn hf (by simp [g2]) hd (fun H1 locs1 hP1 _ hS1 => ?_)
      rw [wsO_put hv g3 h0] at hP1
      have w := hK _ _ _ _ hst hla (okL_tl (okL_tl hsa)) hsu.1 hsu.2 _ _ _ hls hP1 hS1
      rw [nx] at w
      exact w
    have e : cv N0 b (.inr (.inl (some (t, i)))) = .ref (N0 + ad t i.toNat) := by simp only [cv, adr_ne ht]
    rw [List.map_cons, List.map_cons, e]
    split at hst2
    · have hd0 := of_decide_eq_true g5
      exact key .int hst2 (by rw [hd0]; decide) (by decide) (by rw [hd0]; decide +kernel) rfl rfl
    · have hd0 := of_decide_eq_true g5
      refine key .boolean hst2.2 (by rw [hd0]; decide) (by decide) (by rw [hd0]; decide +kernel) ?_ ?_
      · rcases hst2.1 with rfl | rfl <;> decide
      · rcases hst2.1 with rfl | rfl <;> decide
    · exact hst2.elim
  case iaload  =>
    have nx : nd (bp y) (pc + 1) = nd (bp y) pc + 1 := of_decide_eq_true hLn
    have hd := dec1 hd nx
    split at hst
    case h_2 => exact hst.elim
    rename_i j0 t i st0
    obtain ⟨hc, hst2⟩ := bif_t hst
    clear hst
    have hc := beq_t hc
    obtain ⟨h1, h2⟩ := hst2
    have hj : ir j0 := okL_hd hsa
    have w := hK _ _ _ _ h2 hla (okL_cons (okL_tl (okL_tl hsa)) (hsi.1 _ _ _)) hsi rfl _ _ _ hls hP hS
    rw [nx] at w
    by_cases ht : t = 99
    · subst ht
      have ho : okV sc (vr 99 i) := okL_hd (okL_tl hsa)
      have ho : i = 0 ∧ sc := by
        rcases ho with q | q
        · exact q.2
        · exact absurd rfl q.1
      obtain ⟨rfl, hs⟩ := ho
      obtain ⟨g1, g2, g3⟩ := hscr hs
      obtain ⟨g4, g5⟩ := hsi.2 hs
      rw [aln_99, g4] at h1
      have hb' : cv N0 b (.inr (.inl (some (99, 0)))) = .ref b := by simp only [cv, adr, if_true]
      rw [List.map_cons, List.map_cons, hb']
      refine va_sld hx hb g1 g2 (show ¬ N0 ≤ b by omega) hS ((oi_in hj).mpr h1) hd ?_
      rw [oi_nat hj h1.1]
      have e2 := g5 j0.toNat (by omega)
      have e3 : ((j0.toNat : Nat) : Int) = j0 := by omega
      rw [e3] at e2
      have e4 : xs j0.toNat = Int32.ofInt (σ 99 0 j0) := by rw [e2, Int32.ofInt_toInt]
      rw [e4]
      exact w
    · have hv := ok_vd (okL_hd (okL_tl hsa)) ht
      have hv2 := vd_nat hv
      have hlt := vd_lt hv
      have he := wsO_at (cA := cA) (N0 := N0) (σ := σ) hv2.1
      rw [cE_int hc, hv2.2] at he
      rw [aln_ne ht] at h1
      have hal := al_pos (t := t) (by omega)
      have e : cv N0 b (.inr (.inl (some (t, i)))) = .ref (N0 + ad t i.toNat) := by simp only [cv, adr_ne ht]
      rw [List.map_cons, List.map_cons, e]
      refine va_iald hx hb hKs hP (ad t i.toNat) 0 he rfl ((oi_in hj).mpr (by omega)) hd ?_
      rw [oi_nat hj h1.1]
      have e3 : ((j0.toNat : Nat) : Int) = j0 := by omega
      rw [e3]
      exact w
  case baload  =>
    have nx : nd (bp y) (pc + 1) = nd (bp y) pc + 1 := of_decide_eq_true hLn
    have hd := dec1 hd nx
    split at hst
    case h_2 => exact hst.elim
    rename_i j0 t i st0
    obtain ⟨hc, hst2⟩ := bif_t hst
    clear hst
    have hc := beq_t hc
    obtain ⟨h1, h2⟩ := hst2
    have hj : ir j0 := okL_hd hsa
    have ht : t ≠ 99 := fun z => by rw [z, ak_99] at hc; omega
    have hv := ok_vd (okL_hd (okL_tl hsa)) ht
    have hv2 := vd_nat hv
    have hlt := vd_lt hv
    have he := wsO_at (cA := cA) (N0 := N0) (σ := σ) hv2.1
    have hal := al_pos (t := t) (by omega)
    have e : cv N0 b (.inr (.inl (some (t, i)))) = .ref (N0 + ad t i.toNat) := by simp only [cv, adr_ne ht]
    rw [aln_ne ht] at h1
    rw [cE_bool hc, hv2.2] at he
    have w := hK _ _ _ _ h2 hla (okL_cons (okL_tl (okL_tl hsa)) (hsi.1 _ _ _)) hsi rfl _ _ _ hls hP hS
    rw [nx] at w
    rw [List.map_cons, List.map_cons, e]
    refine va_zald hx hb hKs hP (ad t i.toNat) 1 he rfl ((oi_in hj).mpr (by omega)) hd ?_
    rw [oi_nat hj h1.1]
    have e3 : ((j0.toNat : Nat) : Int) = j0 := by omega
    rw [e3]
    exact w
  case iastore  =>
    have nx : nd (bp y) (pc + 1) = nd (bp y) pc + 1 := of_decide_eq_true hLn
    have hd := dec1 hd nx
    split at hst
    case h_2 => exact hst.elim
    rename_i x0 j0 t i st0
    obtain ⟨hc, hst2⟩ := bif_t hst
    clear hst
    rw [Bool.and_eq_true] at hc
    have ht : t ≠ 99 := fun z => by rw [z] at hc; exact absurd hc.2 (by decide)
    have hc := beq_t hc.1
    obtain ⟨h1, h2⟩ := hst2
    have hx0 : ir x0 := okL_hd hsa
    have hj : ir j0 := okL_hd (okL_tl hsa)
    have hv := ok_vd (okL_hd (okL_tl (okL_tl hsa))) ht
    have hv2 := vd_nat hv
    have hlt := vd_lt hv
    have he := wsO_at (cA := cA) (N0 := N0) (σ := σ) hv2.1
    have hal := al_pos (t := t) (by omega)
    have e : cv N0 b (.inr (.inl (some (t, i)))) = .ref (N0 + ad t i.toNat) := by simp only [cv, adr_ne ht]
    rw [aln_ne ht] at h1
    rw [cE_int hc, hv2.2] at he
    have hsu := SI_up (t := t) (i := i) (j := j0) hsi hx0 ht
    rw [List.map_cons, List.map_cons, List.map_cons, e]
    refine va_iast hx hb hKs hP (wsO_D σ) hS (ad t i.toNat) 0 he rfl ((oi_in hj).mpr (by omega)) hd (fun H1 locs1 hP1 _ hS1 => ?_)
    rw [wsO_ast hv hc hj h1.1] at hP1
    have w := hK _ _ _ _ h2 hla (okL_tl (okL_tl (okL_tl hsa))) hsu.1 hsu.2 _ _ _ hls hP1 hS1
    rw [nx] at w
    exact w
  case bastore  =>
    have nx : nd (bp y) (pc + 1) = nd (bp y) pc + 1 := of_decide_eq_true hLn
    have hd := dec1 hd nx
    split at hst
    case h_2 => exact hst.elim
    rename_i x0 j0 t i st0
    obtain ⟨hc, hst2⟩ := bif_t hst
    clear hst
    have hc := beq_t hc
    have ht : t ≠ 99 := fun z => by rw [z, ak_99] at hc; omega
    obtain ⟨⟨h1, h3⟩, h2⟩ := hst2
    have hx0 : ir x0 := okL_hd hsa
    have hj : ir j0 := okL_hd (okL_tl hsa)
    have hv := ok_vd (okL_hd (okL_tl (okL_tl hsa))) ht
    have hv2 := vd_nat hv
    have hlt := vd_lt hv
    have he := wsO_at (cA := cA) (N0 := N0) (σ := σ) hv2.1
    have hal := al_pos (t := t) (by omega)
    have e : cv N0 b (.inr (.inl (some (t, i)))) = .ref (N0 + ad t i.toNat) := by simp only [cv, adr_ne ht]
    rw [aln_ne ht] at h1
    rw [cE_bool hc, hv2.2] at he
    have hsu := SI_up (t := t) (i := i) (j := j0) hsi hx0 ht
    rw [List.map_cons, List.map_cons, List.map_cons, e]
    refine va_zast hx hb hKs hP (wsO_D σ) hS (ad t i.toNat) 1 he rfl ((oi_in hj).mpr (by omega)) hd (fun H1 locs1 hP1 _ hS1 => ?_)
    have e9 : vp_nar .boolean (Int32.ofInt x0) = Int32.ofInt x0 := by rcases h3 with rfl | rfl <;> decide
    rw [e9, wsO_bst hv hc hj h1.1] at hP1
    have w := hK _ _ _ _ h2 hla (okL_tl (okL_tl (okL_tl hsa))) hsu.1 hsu.2 _ _ _ hls hP1 hS1
    rw [nx] at w
    exact w
  case aaload  =>
    have nx : nd (bp y) (pc + 1) = nd (bp y) pc + 1 := of_decide_eq_true hLn
    have hd := dec1 hd nx
    split at hst
    case h_2 => exact hst.elim
    rename_i j0 t i st0
    obtain ⟨hc, hst2⟩ := bif_t hst
    clear hst
    have hc := Nat.le_of_ble_eq_true hc
    obtain ⟨h1, h2⟩ := hst2
    have hj : ir j0 := okL_hd hsa
    have ht : t ≠ 99 := fun z => by rw [z, ak_99] at hc; omega
    have hv := ok_vd (okL_hd (okL_tl hsa)) ht
    have hv2 := vd_nat hv
    have hlt := vd_lt hv
    have he := wsO_at (cA := cA) (N0 := N0) (σ := σ) hv2.1
    have hal := al_pos (t := t) (by omega)
    have e : cv N0 b (.inr (.inl (some (t, i)))) = .ref (N0 + ad t i.toNat) := by simp only [cv, adr_ne ht]
    rw [aln_ne ht] at h1
    obtain ⟨C9, k9, q1, q2⟩ := cE_ref (cA := cA) (N0 := N0) (σ := σ) (i := i.toNat) hc (by omega : t < 100)
    rw [q2] at he
    have hcn : (cnt (el t) : Int) = ndI alL t := by
      have h := tb (t := t) (by omega)
      simp only [tbOk, Bool.and_eq_true, Bool.or_eq_true, decide_eq_true_eq] at h
      rcases h.1.1.1.1.1.2 with q | q
      · omega
      · exact q
    have hv3 : vd (el t) j0 := ⟨h1.1, by rw [hcn]; exact h1.2⟩
    have hne9 : el t ≠ 99 := by have := vd_lt hv3; omega
    have w := hK _ _ _ _ h2 hla (okL_cons (okL_tl (okL_tl hsa)) (Or.inr ⟨hne9, hv3⟩)) hsi rfl _ _ _ hls hP hS
    rw [nx] at w
    rw [List.map_cons, List.map_cons, e]
    refine va_aldq hx hb hKs hP (ad t i.toNat) k9 he q1 ((oi_in hj).mpr (by omega)) hd ?_
    rw [oi_nat hj h1.1]
    have e8 : cv N0 b (.inr (.inl (some (el t, j0)))) = .ref (N0 + ad (el t) j0.toNat) := by simp only [cv, adr_ne hne9]
    rw [List.map_cons, e8] at w
    exact w
  case arraylength  =>
    have nx : nd (bp y) (pc + 1) = nd (bp y) pc + 1 := of_decide_eq_true hLn
    have hd := dec1 hd nx
    split at hst
    case h_2 => exact hst.elim
    rename_i t i st0
    by_cases ht : t = 99
    · subst ht
      have ho : okV sc (vr 99 i) := okL_hd hsa
      have ho : i = 0 ∧ sc := by
        rcases ho with q | q
        · exact q.2
        · exact absurd rfl q.1
      obtain ⟨rfl, hs⟩ := ho
      obtain ⟨g1, g2, g3⟩ := hscr hs
      obtain ⟨g4, g5⟩ := hsi.2 hs
      have hst : K (pc + 1) la (.inl (aln σ 99) :: st0) σ := hst
      rw [aln_99] at hst
      have w := hK _ _ _ _ hst hla (okL_cons (okL_tl hsa) (hsi.1 _ _ _)) hsi rfl _ _ _ hls hP hS
      rw [nx] at w
      have hb' : cv N0 b (.inr (.inl (some (99, 0)))) = .ref b := by simp only [cv, adr, if_true]
      rw [List.map_cons, hb']
      refine va_slen hx hb g1 g2 (show ¬ N0 ≤ b by omega) hS hd ?_
      rw [show Int32.ofNat L = Int32.ofInt (σ 99 0 (-1)) by rw [g4]; rfl]
      exact w
    · have hc : ¬ ak t = 0 := fun z => by rw [z] at hst; exact hst
      have hst : K (pc + 1) la (.inl (aln σ t) :: st0) σ := by
        have : Nat.beq (ak t) 0 = false := by
          cases h : Nat.beq (ak t) 0
          · rfl
          · exact absurd (beq_t h) hc
        rw [this] at hst; exact hst
      have hv := ok_vd (okL_hd hsa) ht
      have hv2 := vd_nat hv
      have hlt := vd_lt hv
      have he := wsO_at (cA := cA) (N0 := N0) (σ := σ) hv2.1
      have hal := al_pos (t := t) (by omega)
      rw [aln_ne ht] at hst
      have w := hK _ _ _ _ hst hla (okL_cons (okL_tl hsa) (show ir (ndI alL t) by unfold ir; omega)) hsi rfl _ _ _ hls hP hS
      rw [nx] at w
      have e : cv N0 b (.inr (.inl (some (t, i)))) = .ref (N0 + ad t i.toNat) := by simp only [cv, adr_ne ht]
      have e2 : Int32.ofNat (ndI alL t).toNat = Int32.ofInt (ndI alL t) := by rw [oi_nI hal.1]; rfl
      rw [List.map_cons, e]
      have h5 : ak t = 1 ∨ ak t = 2 ∨ 3 ≤ ak t := by omega
      rcases h5 with h5 | h5 | h5
      · rw [cE_int h5] at he
        exact va_alen hx hb hKs hP (ad t i.toNat) 0 he (ty := .int) rfl e2 hd w
      · rw [cE_bool h5] at he
        exact va_alen hx hb hKs hP (ad t i.toNat) 1 he (ty := .boolean) rfl e2 hd w
      · obtain ⟨C9, k9, q1, q2⟩ := cE_ref (cA := cA) (N0 := N0) (σ := σ) (i := i.toNat) h5 (by omega : t < 100)
        rw [q2] at he
        exact va_alen hx hb hKs hP (ad t i.toNat) k9 he q1 e2 hd w
  case invokevirtual n =>
    have nx : nd (bp y) (pc + 1) = nd (bp y) pc + 3 := of_decide_eq_true hLn
    have hd := dec1 hd nx
    simp only [acl, noS] at hst
    split at hst
    case h_3 => exact hst.elim
    case h_2 => simp [chkK] at hCk
    rename_i y0 n0 c0 k0 hq
    split at hst
    case h_2 => exact hst.elim
    rename_i as0 st0 hpop
    obtain ⟨hb0, hst2⟩ := bif_t hst
    clear hst
    simp only [Bool.and_eq_true] at hb0
    obtain ⟨hb0, hrc, hn9⟩ := hb0
    obtain ⟨us, u1, u2, u3⟩ := pop_at _ _ _ _ _ hpop
    rw [List.append_nil] at u3
    have hoas0 : okL sc as0 := fun w hw => hsa w (by rw [u2]; rw [u3, List.mem_reverse] at hw; exact List.mem_append_left _ hw)
    have hoas := n99_ok as0 hn9 hoas0
    have host : okL sc st0 := fun w hw => hsa w (by rw [u2]; exact List.mem_append_right _ hw)
    have hCk : (lkm.any (fun e => decide (e.1 = oc y) && decide (e.2.1 = n) && decide (e.2.2.1 = y0)) && !isS y0 && decide (n0 = np y0 + 1) && decide (cn (c0 - 1) = (nm y0).cls) && decide (0 < c0) && decide (c0 < 10) && chkK.chkR (rt y0) k0 && decide ((nm y0).name ≠ "<init>")) = true := hCk
    simp only [Bool.and_eq_true, Bool.not_eq_true', decide_eq_true_eq] at hCk
    obtain ⟨⟨⟨⟨⟨⟨⟨c1, c2⟩, c3⟩, c4⟩, c5⟩, c6⟩, c7⟩, c8⟩ := hCk
    have hlink : Jvm.Cond.methodLink (cn (oc y)) n (nm y0) ∈ lw_tbl := by
      obtain ⟨⟨e1, e2, e3, e4⟩, he, hc⟩ := List.any_eq_true.mp c1
      simp only [Bool.and_eq_true, decide_eq_true_eq] at hc
      obtain ⟨⟨rfl, rfl⟩, rfl⟩ := hc
      exact lw_mem (List.all_eq_true.mp lkm_ok _ he)
    
    have fin : ∀ (v : AV) (σ' : SS), Cal y0 as0 σ v σ' → (∀ (x : List AV), x = (if isU v = true then st0 else v :: st0) → K (pc + 1) la x σ') → W p l e₀ R s m args below meth c H locs cells slots Q (F0 m (nd (bp y) pc) ls (sa.map (cv N0 b))) := by
      intro v σ' hcl hk
      obtain ⟨hy0, hov, hin, h99, hM⟩ := hCal _ _ _ _ _ hcl hoas hsi.1
      obtain ⟨p1, p2, p3, p4, p5, p6, p7, p8, p9, p10⟩ := pl_at hy0
      have hsi' : SI sc L xs σ' := ⟨hin, fun z => by rw [h99]; exact hsi.2 z⟩
      have hov' : okV sc v := by
        rcases v with v | r | v
        · exact hov
        · rcases r with _ | ⟨t, i⟩
          · trivial
          · rcases hov with q | q
            · exact q.2.2.elim
            · exact Or.inr q
        · rcases v with v | v <;> exact hov
      have hblind : FrameBlind (PcA D cA N0 b as0 σ) := fun a U g mk q => by
        obtain ⟨q0, qP, qK, qN⟩ := q
        exact ⟨q0, qP, va_K.moved (u := U) (U := U.calling g mk a) (Vm.Alike.refl U.vm) qK, NW.same (u := U) rfl qN⟩
      have hpre : ∀ U : State, U.heap = H → s.WarmedH U.vm → PcA D cA N0 b as0 σ (as0.map (cv N0 b)).toArray U := fun U hU hW => ⟨rfl, by rw [hU]; exact hP, va_K.moved hW.alike hKs, NW.moved hW hNW⟩
      have hroom : (rmD d).frames + 1 ≤ R.frames ∧ 8 + (nl y0 + 11) + (rmD d).locals ≤ R.locals := ⟨hfr, by show 8 + (nl y0 + 11) + 32 * d ≤ R.locals; omega⟩
      have hWr : 2 * (F0 m (nd (bp y) pc) ls (sa.map (cv N0 b))).monitorRoom + ((st0.map (cv N0 b)).map fun v => v.category).sum ≤ 8 := by
        have := cat1_sum (N0 := N0) (b := b) st0 hb0.2
        have h8 := Nat.le_of_ble_eq_true hb0.1
        exact lv_room (by omega)
      have hsz : ls.size = nl y := by obtain ⟨-, l0, q, -⟩ := hls; exact q.1
      have kk : ∀ (t : State) (H1 : Heap) (locs1 : List Loc), t.heap = H1 → s.vm.Alike t.vm → va_P D vwCl (wsO cA N0 σ') t.heap → va_S (fun q => N0 ≤ q) s.heap H1 locs1 → W p l e₀ R s m args below meth c H1 locs1 (cells + 0) (slots + 0) Q (F0 m (nd (bp y) pc + 3) ls ((rv N0 b v).toList ++ st0.map (cv N0 b))) := by
        intro t H1 locs1 ht _ hPt hS1
        rw [ht] at hPt
        have hsx : okL sc (if isU v = true then st0 else v :: st0) := by
          split
          · exact host
          · exact okL_cons host hov'
        have w := hK _ _ _ _ (hk _ rfl) hla hsx hsi' h99 _ _ _ hls hPt hS1
        rw [nx] at w
        have e : (if isU v = true then st0 else v :: st0).map (cv N0 b) = (rv N0 b v).toList ++ st0.map (cv N0 b) := by
          unfold rv
          split <;> rfl
        rw [e] at w
        exact w
      rcases as0 with _ | ⟨v0, as1⟩
      · have : us.length = 0 := by rw [← List.length_reverse, ← u3]; rfl
        omega
      obtain ⟨c9, rfl⟩ : ∃ c9, c0 = c9 + 1 := ⟨c0 - 1, by omega⟩
      rcases v0 with v0 | r0 | v0
      · simp [rcv] at hrc
      · rcases r0 with _ | ⟨t, i⟩
        · simp [rcv] at hrc
        have hcl0 : cls t = c9 + 1 := beq_t hrc
        have ht : t ≠ 99 := fun z => by rw [z, cls_99] at hcl0; omega
        have hv := ok_vd (okL_hd hoas0) ht
        have hv2 := vd_nat hv
        have hlt := vd_lt hv
        have he := wsO_at (cA := cA) (N0 := N0) (σ := σ) hv2.1
        rw [cE_obj (by omega) (by omega), hv2.2, hcl0] at he
        have e : cv N0 b (.inr (.inl (some (t, i)))) = .ref (N0 + ad t i.toNat) := by simp only [cv, adr_ne ht]
        have hcls : (nm y0).cls = (kc c9).1 := by rw [← c4]; exact cn_at (by omega)
        have hst : sa.map (cv N0 b) = (as1.map (cv N0 b)).reverse ++ .ref (N0 + ad t i.toNat) :: st0.map (cv N0 b) := by
          have : us = as1.reverse ++ [.inr (.inl (some (t, i)))] := by rw [← List.reverse_reverse us, ← u3, List.reverse_cons]
          rw [u2, this]
          simp only [List.map_append, List.map_reverse, List.map_cons, List.map_nil, e, List.append_assoc, List.singleton_append]
        have hlen : (as1.map (cv N0 b)).length = np y0 := by
          have : (us.length) = as1.length + 1 := by rw [← List.length_reverse, ← u3]; rfl
          rw [List.length_map]; omega
        have hpre' : ∀ U : State, U.heap = H → s.WarmedH U.vm → PcA D cA N0 b (.inr (.inl (some (t, i))) :: as1) σ (Value.ref (N0 + ad t i.toNat) :: as1.map (cv N0 b)).toArray U := by
          intro U hU hW
          have := hpre U hU hW
          rw [List.map_cons, e] at this
          exact this
        have hrecv := va_recv hKs hP (ci := c9) (q0 := ad t i.toNat) (kc_at (by omega)) he
        rw [← hcls] at hrecv
        have cw := cwV (R := R) (s := s) (args := args) (own := cn (oc y)) (C := (nm y0).cls) (index := n) (y := nm y0) (bytes := byt y0) (maxL := nl y0) (ret := rt y0) (ws := wsM y0) (rm := rmD d) (mc := 0) (ms := 0) (np y0) hts (good_wsV (uw_mem hlink rfl) (p3 c2) (p4 c2 c8) p1 p10) rfl rfl rfl ⟨rfl, p6⟩ hroom
        have hrun := va_runV (p := p) (l := l) (e := e₀) (below := below) (meth := meth) (locs := locs) (cells := cells) (slots := slots) (g := F0 m (nd (bp y) pc) ls (sa.map (cv N0 b))) (As := as1.map (cv N0 b)) (rest := st0.map (cv N0 b)) ⟨hx, hb, hml, hown, hts⟩ hM cw ⟨hblind, hrecv, hpre'⟩ rfl hlen hsz hst hWr hd ⟨hce, hsl⟩
        exact va_callg hrun hS kk
      · simp [rcv] at hrc
    split at hst2
    · obtain ⟨σ', h1, h2⟩ := hst2
      exact fin vu σ' h1 (fun x hx' => by rw [hx']; exact h2)
    · obtain ⟨x, σ', h1, h2⟩ := hst2
      exact fin (.inl x) σ' h1 (fun x hx' => by rw [hx']; exact h2)
    · obtain ⟨r, σ', h1, h2⟩ := hst2
      exact fin (.inr (.inl r)) σ' h1 (fun x hx' => by rw [hx']; exact h2)
  case invokestatic n =>
    have nx : nd (bp y) (pc + 1) = nd (bp y) pc + 3 := of_decide_eq_true hLn
    have hd := dec1 hd nx
    simp only [acl, noS] at hst
    split at hst
    case h_3 => exact hst.elim
    case h_2 =>
      rename_i a0
      split at hst
      case h_2 => exact hst.elim
      rename_i y0 x0 st0
      obtain ⟨hb0, hst2⟩ := bif_t hst
      clear hst
      rw [Bool.and_eq_true] at hb0
      have hy0 : ir y0 := okL_hd hsa
      have hx0 : ir x0 := okL_hd (okL_tl hsa)
      have hCk : lkx.any (fun e => decide (e.1 = oc y) && decide (e.2.1 = n)) = true := hCk
      obtain ⟨⟨e1, e2, e3⟩, he, hc⟩ := List.any_eq_true.mp hCk
      simp only [Bool.and_eq_true, decide_eq_true_eq] at hc
      obtain ⟨rfl, rfl⟩ := hc
      have hlink := lw_mem (List.all_eq_true.mp lkx_ok _ he)
      have m1 := lw_m1
      have m2 := lw_m2
      have m3 := lw_m3
      have w := hK _ _ _ _ hst2 hla (okL_cons (okL_tl (okL_tl hsa)) (show ir (max x0 y0) by unfold ir at *; omega)) hsi rfl _ _ _ hls hP hS
      rw [nx] at w
      have hs8 := cat1_sum (N0 := N0) (b := b) st0 hb0.1
      have h8 := Nat.le_of_ble_eq_true hb0.2
      have hsz : ls.size = nl y := by obtain ⟨-, l0, q, -⟩ := hls; exact q.1
      refine va_mmax hx hb (by rw [hml, hsz]) hown (hts _ (uw_mem hlink rfl)) (hts _ (uw_mem m1 rfl)) (hts _ (uw_mem m2 rfl)) (hts _ (uw_mem m3 rfl)) (by omega) (by rw [hs8]; omega) hce hsl hd ?_
      rw [oi_max hx0 hy0]
      exact w
    rename_i y0 n0 c0 k0 hq
    split at hst
    case h_2 => exact hst.elim
    rename_i as0 st0 hpop
    obtain ⟨hb0, hst2⟩ := bif_t hst
    clear hst
    simp only [Bool.and_eq_true] at hb0
    obtain ⟨hb0, hrc, hn9⟩ := hb0
    obtain ⟨us, u1, u2, u3⟩ := pop_at _ _ _ _ _ hpop
    rw [List.append_nil] at u3
    have hoas0 : okL sc as0 := fun w hw => hsa w (by rw [u2]; rw [u3, List.mem_reverse] at hw; exact List.mem_append_left _ hw)
    have hoas := n99_ok as0 hn9 hoas0
    have host : okL sc st0 := fun w hw => hsa w (by rw [u2]; exact List.mem_append_right _ hw)
    have hCk : ((lkm.any (fun e => decide (e.1 = oc y) && decide (e.2.1 = n) && decide (e.2.2.1 = y0)) && decide ((nm y0).cls = cn (oc y)) || lkn.any (fun e => decide (e.1 = oc y) && decide (e.2.1 = n) && decide (e.2.2.1 = y0))) && isS y0 && decide (n0 = np y0) && decide (c0 = 0) && chkK.chkR (rt y0) k0) = true := hCk
    simp only [Bool.and_eq_true, Bool.or_eq_true, decide_eq_true_eq] at hCk
    obtain ⟨⟨⟨⟨c1, c2⟩, c3⟩, c4⟩, c5⟩ := hCk
    
    have fin : ∀ (v : AV) (σ' : SS), Cal y0 as0 σ v σ' → (∀ (x : List AV), x = (if isU v = true then st0 else v :: st0) → K (pc + 1) la x σ') → W p l e₀ R s m args below meth c H locs cells slots Q (F0 m (nd (bp y) pc) ls (sa.map (cv N0 b))) := by
      intro v σ' hcl hk
      obtain ⟨hy0, hov, hin, h99, hM⟩ := hCal _ _ _ _ _ hcl hoas hsi.1
      obtain ⟨p1, p2, p3, p4, p5, p6, p7, p8, p9, p10⟩ := pl_at hy0
      have hsi' : SI sc L xs σ' := ⟨hin, fun z => by rw [h99]; exact hsi.2 z⟩
      have hov' : okV sc v := by
        rcases v with v | r | v
        · exact hov
        · rcases r with _ | ⟨t, i⟩
          · trivial
          · rcases hov with q | q
            · exact q.2.2.elim
            · exact Or.inr q
        · rcases v with v | v <;> exact hov
      have hblind : FrameBlind (PcA D cA N0 b as0 σ) := fun a U g mk q => by
        obtain ⟨q0, qP, qK, qN⟩ := q
        exact ⟨q0, qP, va_K.moved (u := U) (U := U.calling g mk a) (Vm.Alike.refl U.vm) qK, NW.same (u := U) rfl qN⟩
      have hpre : ∀ U : State, U.heap = H → s.WarmedH U.vm → PcA D cA N0 b as0 σ (as0.map (cv N0 b)).toArray U := fun U hU hW => ⟨rfl, by rw [hU]; exact hP, va_K.moved hW.alike hKs, NW.moved hW hNW⟩
      have hroom : (rmD d).frames + 1 ≤ R.frames ∧ 8 + (nl y0 + 11) + (rmD d).locals ≤ R.locals := ⟨hfr, by show 8 + (nl y0 + 11) + 32 * d ≤ R.locals; omega⟩
      have hWr : 2 * (F0 m (nd (bp y) pc) ls (sa.map (cv N0 b))).monitorRoom + ((st0.map (cv N0 b)).map fun v => v.category).sum ≤ 8 := by
        have := cat1_sum (N0 := N0) (b := b) st0 hb0.2
        have h8 := Nat.le_of_ble_eq_true hb0.1
        exact lv_room (by omega)
      have hsz : ls.size = nl y := by obtain ⟨-, l0, q, -⟩ := hls; exact q.1
      have kk : ∀ (t : State) (H1 : Heap) (locs1 : List Loc), t.heap = H1 → s.vm.Alike t.vm → va_P D vwCl (wsO cA N0 σ') t.heap → va_S (fun q => N0 ≤ q) s.heap H1 locs1 → W p l e₀ R s m args below meth c H1 locs1 (cells + 0) (slots + 0) Q (F0 m (nd (bp y) pc + 3) ls ((rv N0 b v).toList ++ st0.map (cv N0 b))) := by
        intro t H1 locs1 ht _ hPt hS1
        rw [ht] at hPt
        have hsx : okL sc (if isU v = true then st0 else v :: st0) := by
          split
          · exact host
          · exact okL_cons host hov'
        have w := hK _ _ _ _ (hk _ rfl) hla hsx hsi' h99 _ _ _ hls hPt hS1
        rw [nx] at w
        have e : (if isU v = true then st0 else v :: st0).map (cv N0 b) = (rv N0 b v).toList ++ st0.map (cv N0 b) := by
          unfold rv
          split <;> rfl
        rw [e] at w
        exact w
      have hst : sa.map (cv N0 b) = (as0.map (cv N0 b)).reverse ++ st0.map (cv N0 b) := by
        have : us = as0.reverse := by rw [u3, List.reverse_reverse]
        rw [u2, this]
        simp only [List.map_append, List.map_reverse]
      have hlen : (as0.map (cv N0 b)).length = np y0 := by
        have : us.length = as0.length := by rw [u3, List.length_reverse]
        rw [List.length_map]; omega
      rcases c1 with ⟨c1, c8⟩ | c1
      · have hlink : Jvm.Cond.methodLink (cn (oc y)) n (nm y0) ∈ lw_tbl := by
          obtain ⟨⟨e1, e2, e3, e4⟩, he, hc⟩ := List.any_eq_true.mp c1
          simp only [Bool.and_eq_true, decide_eq_true_eq] at hc
          obtain ⟨⟨rfl, rfl⟩, rfl⟩ := hc
          exact lw_mem (List.all_eq_true.mp lkm_ok _ he)
        have cw := cwS (R := R) (s := s) (args := args) (own := cn (oc y)) (index := n) (y := nm y0) (bytes := byt y0) (maxL := nl y0) (ret := rt y0) (ws := wsM y0) (rm := rmD d) (mc := 0) (ms := 0) (np y0) hts (good_wsS (uw_mem hlink rfl) (p2 c2) (by rw [← c8]; exact p1) p10) rfl rfl rfl ⟨c8, p6⟩ hroom
        have hrun := va_runS (p := p) (l := l) (e := e₀) (below := below) (meth := meth) (locs := locs) (cells := cells) (slots := slots) (g := F0 m (nd (bp y) pc) ls (sa.map (cv N0 b))) (As := as0.map (cv N0 b)) (rest := st0.map (cv N0 b)) ⟨hx, hb, hml, hown, hts⟩ hM cw ⟨hblind, hpre⟩ rfl hlen hsz hst hWr hd ⟨hce, hsl⟩
        exact va_callg hrun hS kk
      · have hl9 : va_Nw (.methodLinkNest (cn (oc y)) n (nm y0) "RegionStack") s := by
          obtain ⟨⟨e1, e2, e3, e4⟩, he, hc⟩ := List.any_eq_true.mp c1
          simp only [Bool.and_eq_true, decide_eq_true_eq] at hc
          obtain ⟨⟨rfl, rfl⟩, rfl⟩ := hc
          exact hNW _ he
        have cw := va_cnB (R := R) (s := s) (args := args) (own := cn (oc y)) (host := "RegionStack") (index := n) (y := nm y0) (bytes := byt y0) (maxL := nl y0) (ret := rt y0) (ws := wsM y0) (rm := rmD d) (mc := 0) (ms := 0) (np y0) hts (good_wsM p10) rfl rfl rfl hl9 (hts _ p1) p6 hroom
        have hrun := va_runSN (p := p) (l := l) (e := e₀) (below := below) (meth := meth) (locs := locs) (cells := cells) (slots := slots) (g := F0 m (nd (bp y) pc) ls (sa.map (cv N0 b))) (As := as0.map (cv N0 b)) (rest := st0.map (cv N0 b)) ⟨hx, hb, hml, hown, hts⟩ hM ⟨cw, hts _ (p2 c2), trivial⟩ ⟨hblind, hpre⟩ rfl hlen hsz hst hWr hd ⟨hce, hsl⟩
        exact va_callg hrun hS kk
    split at hst2
    · obtain ⟨σ', h1, h2⟩ := hst2
      exact fin vu σ' h1 (fun x hx' => by rw [hx']; exact h2)
    · obtain ⟨x, σ', h1, h2⟩ := hst2
      exact fin (.inl x) σ' h1 (fun x hx' => by rw [hx']; exact h2)
    · obtain ⟨r, σ', h1, h2⟩ := hst2
      exact fin (.inr (.inl r)) σ' h1 (fun x hx' => by rw [hx']; exact h2)
  case ireturn  =>
    have hd : decode (byt y) (nd (bp y) pc) = .ok (.ireturn, 1) := dec1 hd (of_decide_eq_true hLn)
    split at hst
    case h_2 => exact hst.elim
    rename_i x0
    have ho : okV sc (.inl x0) := okL_hd hsa
    cases hbz : bzm y
    · rw [hbz] at hst
      exact hret _ _ hst ho hsi rfl _ ls H locs hP hS hd (fun z => by rw [hbz] at z; cases z) rfl
    · rw [hbz] at hst
      exact hret _ _ hst.2 ho hsi rfl _ ls H locs hP hS hd (fun _ x hx' => by cases hx'; exact hst.1) rfl
  case areturn  =>
    have hd : decode (byt y) (nd (bp y) pc) = .ok (.areturn, 1) := dec1 hd (of_decide_eq_true hLn)
    split at hst
    case h_2 => exact hst.elim
    rename_i r
    have ho : okV sc (.inr (.inl r)) := okL_hd hsa
    exact hret _ _ hst ho hsi rfl _ ls H locs hP hS hd (fun _ x hx' => by cases hx') rfl
  case return_  =>
    have hd : decode (byt y) (nd (bp y) pc) = .ok (.return_, 1) := dec1 hd (of_decide_eq_true hLn)
    split at hst
    case h_2 => exact hst.elim
    exact hret _ _ hst (show okV sc vu from trivial) hsi rfl _ ls H locs hP hS hd (fun _ x hx' => by cases hx') rfl
end SND
