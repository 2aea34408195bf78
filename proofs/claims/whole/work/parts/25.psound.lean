theorem nth_get {α : Type} : ∀ {l : List α} {i : Nat} {v : α}, nth l i = some v → l[i]? = some v
  | [], _, _, h => by simp [nth] at h
  | _ :: _, 0, _, h => by simpa [nth] using h
  | _ :: l, i + 1, _, h => by simp only [nth] at h; simpa using nth_get h
def FX1 (p : Program) (s : State) (m : MethodId) (args : Array Value) (meth : Method) (c : Code) (D : va_G) (cA : Nat → ClassId) (N0 y : Nat) : Prop :=
  p.tables.exec = Jvm.exec ∧ c.code = byt y ∧ c.maxLocals = nl y ∧ s.vm.findClass (cn (oc y)) = some m.cls ∧ (∀ w ∈ UW, w.before args s = true) ∧ va_K D vwCl (tyA cA) s ∧ NW s ∧ AO s ∧ N0 ≤ s.heap.size ∧ meth.name = "<init>"
def C1 (p : Program) (l : Launch) (e : Env) (R : Room) (s : State) (m : MethodId) (args : Array Value) (below : List Frame) (meth : Method) (c : Code) (Q : State → Prop) (D : va_G) (cA : Nat → ClassId) (N0 y b0 z0 pc : Nat) (la : List (Option PV)) (st : List PV) (h : PH) : Prop :=
  ∀ (ls : Array Slot) (H : Heap) (locs : List Loc) (cl sl : Nat), L1 N0 (nl y) ls la → va_P D vwCl (ws1 cA N0 h) H → H.size = N0 + h.length → va_S (fun q => N0 ≤ q) s.heap H locs → cl + b0 = h.length → sl + z0 = szs h → W p l e R s m args below meth c H locs cl sl Q (F0 m (nd (bp y) pc) ls (st.map (pvV N0)))
theorem takeN_at : ∀ (n : Nat) (acc st as st' : List PV), takeN n acc st = some (as, st') → ∃ us : List PV, us.length = n ∧ st = us ++ st' ∧ as = us.reverse ++ acc
  | 0, acc, st, as, st', h => by
    simp only [takeN, Option.some.injEq, Prod.mk.injEq] at h
    exact ⟨[], rfl, by simp [h.2], by simp [h.1]⟩
  | n + 1, acc, [], as, st', h => by simp [takeN] at h
  | n + 1, acc, v :: st, as, st', h => by
    simp only [takeN] at h
    obtain ⟨us, h1, h2, h3⟩ := takeN_at n (v :: acc) st as st' h
    exact ⟨v :: us, by simp [h1], by simp [h2], by simp [h3]⟩
theorem p_sum {N0 : Nat} (st : List PV) : ((st.map (pvV N0)).map fun v => v.category).sum = st.length := by
  induction st with
  | nil => rfl
  | cons v st ih =>
    simp only [List.map_cons, List.sum_cons, List.length_cons, ih, pcat]
    omega
theorem irB_at {x : Int} (h : irB x = true) : ir x := by
  simp only [irB, Bool.and_eq_true, decide_eq_true_eq] at h
  exact h
theorem getD_fun (l : List (Option Nat)) (v N0 : Nat) (j : Int32) (hj : j.toNatClampNeg = l.length) : va_up (fun q => (l.getD q none).map (fun k => N0 + k)) j.toNatClampNeg (some (N0 + v)) = fun q => ((l ++ [some v]).getD q none).map (fun k => N0 + k) := by
  funext q
  rw [hj]
  simp only [va_up, List.getD_eq_getElem?_getD]
  by_cases h : q = l.length
  · subst h; simp
  · rw [if_neg h]
    by_cases h2 : q < l.length
    · rw [List.getElem?_append_left h2]
    · rw [List.getElem?_eq_none (by omega), List.getElem?_eq_none (by simp; omega)]
def refTy : FieldType → Bool
  | .object _ => true
  | .array _ => true
  | _ => false
theorem refTy_all : (List.range 9).all (fun c => (List.range (kc c).2.2).all (fun k => isI ((kc c).2.1 k).2.2.1 || refTy (ty0 c k))) = true := by decide +kernel
theorem in_nm : inL.all (fun y => !isS y && decide ((nm y).name = "<init>") && decide (rt y = none) && decide (y < 140)) = true := by decide +kernel
theorem in_at {y : Nat} (h : y ∈ inL) : isS y = false ∧ (nm y).name = "<init>" ∧ rt y = none ∧ y < 140 := by
  have := List.all_eq_true.mp in_nm y h
  simp only [Bool.and_eq_true, Bool.not_eq_true', decide_eq_true_eq] at this
  exact ⟨this.1.1.1, this.1.1.2, this.1.2, this.2⟩
section P1S
variable {p : Program} {l : Launch} {e₀ : Env} {R : Room} {s : State} {m : MethodId} {args : Array Value} {below : List Frame} {meth : Method} {c : Code} {Q : State → Prop}
variable {D : va_G} {cA : Nat → ClassId} {N0 y d b0 z0 : Nat}
set_option maxHeartbeats 4000000 in
theorem p1_sound (hF : FX1 p s m args meth c D cA N0 y) (hn : y ∈ inL) {hf : PH} {Cal : Nat → List PV → PH → Option PH} (hCm : ∀ y' as h h', Cal y' as h = some h' → Mon h h')
  (hCal : ∀ y' as h h', Cal y' as h = some h' → y' < 140 ∧ y' ∈ inL ∧ Met l (nm y') (wsM y') (rm1 d (h'.length - h.length) (szs h' - szs h)) (Pc1 D cA N0 as h) (Qc1 D cA N0 h') (h'.length - h.length) (szs h' - szs h) (fun q => N0 ≤ q))
  (hfr : d + 1 ≤ R.frames) (hlo : 32 * (d + 1) ≤ R.locals) (hce : hf.length ≤ b0 + R.cells) (hsl : szs hf ≤ z0 + R.slots)
  (hret : ∀ (pc0 : Nat) (ls : Array Slot) (H : Heap) (locs : List Loc) (cl sl : Nat), va_P D vwCl (ws1 cA N0 hf) H → H.size = N0 + hf.length → va_S (fun q => N0 ≤ q) s.heap H locs → cl + b0 = hf.length → sl + z0 = szs hf → decode (byt y) pc0 = .ok (.return_, 1) → W p l e₀ R s m args below meth c H locs cl sl Q (F0 m pc0 ls [])) :
    ∀ (n pc : Nat) (la : List (Option PV)) (st : List PV) (h : PH), p1 Cal (oc y) (cd y) n pc la st h = some hf → C1 p l e₀ R s m args below meth c Q D cA N0 y b0 z0 pc la st h
  | 0, _, _, _, _, hp => by simp [p1] at hp
  | n + 1, pc, la, st, h, hp => by
    have ih := fun pc la st h => p1_sound hF hn (hf := hf) hCm hCal hfr hlo hce hsl hret n pc la st h
    obtain ⟨hx, hb, hml, hown, hts, hKs, hNW, hAO, hN0, hin⟩ := hF
    have mono := fun pc la st h (q : p1 Cal (oc y) (cd y) n pc la st h = some hf) => p1_mono hCm n pc la st h q
    intro ls H locs cl sl hls hP hH hS hcl hsz
    simp only [p1] at hp
    split at hp
    · cases hp
    rename_i ins hins
    have hck := chkM_at _ 0 pc ins (chk_in1 hn) hins
    rw [Nat.zero_add] at hck
    obtain ⟨hd, hT, hLn, hCk⟩ := chk_split hck
    obtain ⟨J, ns, z⟩ := ins
    simp only at hp
    split at hp
    · -- aload_n
      have nx : nd (bp y) (pc + 1) = nd (bp y) pc + 1 := of_decide_eq_true hLn
      have hd := dec1 hd nx
      split at hp
      · rename_i r hr
        have w := ih _ _ _ _ hp ls H locs cl sl hls hP hH hS hcl hsz
        rw [nx] at w
        exact lv_aload_n hx hb hd rfl (hls.at hr) w
      · cases hp
    · -- iload_n
      have nx : nd (bp y) (pc + 1) = nd (bp y) pc + 1 := of_decide_eq_true hLn
      have hd := dec1 hd nx
      split at hp
      · rename_i r hr
        have w := ih _ _ _ _ hp ls H locs cl sl hls hP hH hS hcl hsz
        rw [nx] at w
        exact lv_iload_n hx hb hd rfl (hls.at hr) w
      · cases hp
    · -- istore_n
      have nx : nd (bp y) (pc + 1) = nd (bp y) pc + 1 := of_decide_eq_true hLn
      have hd := dec1 hd nx
      obtain ⟨hi, hp⟩ := bif_o hp
      have hi := Nat.le_of_ble_eq_true hi
      obtain ⟨e1, l0, e2, e3⟩ := hls
      refine lv_istore_n hx hb hd rfl e2 (by rw [← e1]; exact hi) rfl fun ls' hl' => ?_
      have w := ih _ _ _ _ hp ls' H locs cl sl (L1.set (v := .inl _) e1 e3 hl') hP hH hS hcl hsz
      rw [nx] at w
      exact w
    · -- iconst
      have nx : nd (bp y) (pc + 1) = nd (bp y) pc + 1 := of_decide_eq_true hLn
      have hd := dec1 hd nx
      have w := ih _ _ _ _ hp ls H locs cl sl hls hP hH hS hcl hsz
      rw [nx] at w
      exact lv_iconst hx hb hd rfl w
    · -- bipush
      have nx : nd (bp y) (pc + 1) = nd (bp y) pc + 2 := of_decide_eq_true hLn
      have hd := dec1 hd nx
      have w := ih _ _ _ _ hp ls H locs cl sl hls hP hH hS hcl hsz
      rw [nx] at w
      exact lv_bipush hx hb hd (i8_oi (of_decide_eq_true hCk)) w
    · -- sipush
      have nx : nd (bp y) (pc + 1) = nd (bp y) pc + 3 := of_decide_eq_true hLn
      have hd := dec1 hd nx
      have w := ih _ _ _ _ hp ls H locs cl sl hls hP hH hS hcl hsz
      rw [nx] at w
      exact lv_sipush hx hb hd (i16_oi (of_decide_eq_true hCk)) w
    · -- dup
      have nx : nd (bp y) (pc + 1) = nd (bp y) pc + 1 := of_decide_eq_true hLn
      have hd := dec1 hd nx
      have w := ih _ _ _ _ hp ls H locs cl sl hls hP hH hS hcl hsz
      rw [nx] at w
      exact lv_dup hx hb hd (pcat N0 _) w
    · -- new
      have nx : nd (bp y) (pc + 1) = nd (bp y) pc + 3 := of_decide_eq_true hLn
      have hd := dec1 hd nx
      split at hp
      · rename_i ci hci
        obtain ⟨g1, g2⟩ := clk_at hci
        obtain ⟨g3, g4⟩ := ins_at g2
        have mo := mono _ _ _ _ hp
        have mo1 := mo.1; have mo2 := mo.2
        rw [szs_app] at mo2
        simp only [List.length_append, List.length_singleton] at mo1
        have hbl : (blankF ci).length = (kc ci).2.2 := by simp [blankF]
        have hsC : szC (.inl (ci, blankF ci)) = (kc ci).2.2 := hbl
        rw [hsC] at mo2
        refine n1_new (fs := (blankF ci).map (pvV N0)) hx hb hts (uw_lay g2) (ty0 ci) (tyq_all g2) hown (hts _ (uw_mem g1 rfl)) (hts _ (uw_mem g3 rfl)) (hts _ (uw_mem g4 rfl)) hKs hP hS (kc_at g2) (fun j hj => blank_V g2 hj) (by omega) (by omega) hd (fun H1 hP1 hz1 hS1 => ?_)
        have w := ih _ _ _ _ hp ls H1 locs (cl + 1) (sl + (kc ci).2.2) hls (by rw [ws1_app, ← hH]; exact hP1) (by rw [hz1, hH]; simp; omega) hS1 (by simp; omega) (by rw [szs_app, hsC]; omega)
        rw [nx] at w
        rw [hH]
        exact w
      · cases hp
    · -- newarray int
      rename_i k0 st0
      have nx : nd (bp y) (pc + 1) = nd (bp y) pc + 2 := of_decide_eq_true hLn
      have hd := dec1 hd nx
      obtain ⟨hk, hp⟩ := bif_o hp
      simp only [Bool.and_eq_true, decide_eq_true_eq] at hk
      have mo := mono _ _ _ _ hp
      have mo1 := mo.1; have mo2 := mo.2
      rw [szs_app] at mo2
      simp only [List.length_append, List.length_singleton, szC] at mo1 mo2
      have hir : ir k0 := by unfold ir; omega
      refine n1_newa (atype := .int) (a0 := (k0.toNat, .inl (fun _ => 0))) hx hb (hts (Jvm.Cond.arrayClass .int) (uw_mem ar_int rfl)) (kA_name hKs 0 .int rfl) hP hS (fun cA => rfl) (by rw [oi_0, oi_lt hir ir_0]; omega) (oi_nat hir hk.1) (show k0.toNat * 4 ≤ 536870912 by omega) (by omega) (by omega) hd (fun H1 hP1 hz1 hS1 => ?_)
      have w := ih _ _ _ _ hp ls H1 locs (cl + 1) (sl + k0.toNat) hls (by rw [ws1_app, ← hH]; exact hP1) (by rw [hz1, hH]; simp; omega) hS1 (by simp; omega) (by rw [szs_app]; simp only [szC]; omega)
      rw [nx] at w
      rw [hH]
      exact w
    · -- newarray boolean
      rename_i k0 st0
      have nx : nd (bp y) (pc + 1) = nd (bp y) pc + 2 := of_decide_eq_true hLn
      have hd := dec1 hd nx
      obtain ⟨hk, hp⟩ := bif_o hp
      simp only [Bool.and_eq_true, decide_eq_true_eq] at hk
      have mo := mono _ _ _ _ hp
      have mo1 := mo.1; have mo2 := mo.2
      rw [szs_app] at mo2
      simp only [List.length_append, List.length_singleton, szC] at mo1 mo2
      have hir : ir k0 := by unfold ir; omega
      refine n1_newa (atype := .boolean) (a0 := (k0.toNat, .inl (fun _ => 0))) hx hb (hts (Jvm.Cond.arrayClass .boolean) (uw_mem ar_bool rfl)) (kA_name hKs 1 .boolean rfl) hP hS (fun cA => rfl) (by rw [oi_0, oi_lt hir ir_0]; omega) (oi_nat hir hk.1) (show k0.toNat * 1 ≤ 536870912 by omega) (by omega) (by omega) hd (fun H1 hP1 hz1 hS1 => ?_)
      have w := ih _ _ _ _ hp ls H1 locs (cl + 1) (sl + k0.toNat) hls (by rw [ws1_app, ← hH]; exact hP1) (by rw [hz1, hH]; simp; omega) hS1 (by simp; omega) (by rw [szs_app]; simp only [szC]; omega)
      rw [nx] at w
      rw [hH]
      exact w
    · -- anewarray
      rename_i x0 k0 st0
      have nx : nd (bp y) (pc + 1) = nd (bp y) pc + 3 := of_decide_eq_true hLn
      have hd := dec1 hd nx
      split at hp
      · rename_i hci
        obtain ⟨g1, g2⟩ := clk_at hci
        obtain ⟨hk, hp2⟩ := bif_o hp
        simp only [Bool.and_eq_true, decide_eq_true_eq] at hk
        have mo := mono _ _ _ _ hp2
        have mo1 := mo.1; have mo2 := mo.2
        rw [szs_app] at mo2
        simp only [List.length_append, List.length_singleton, szC] at mo1 mo2
        have hir : ir k0 := by unfold ir; omega
        refine n1_newq hx hb hown (hts (Jvm.Cond.classLink (cn (oc y)) x0 "RegionStack$Body") (uw_mem g1 rfl)) hAO.1 (kA_name hKs 2 (.object "RegionStack$Body") rfl) hP hS (by rw [oi_0, oi_lt hir ir_0]; omega) (oi_nat hir hk.1) (show k0.toNat * 4 ≤ 536870912 by omega) (by omega) (by omega) hd (fun H1 hP1 hz1 hS1 => ?_)
        have w := ih _ _ _ _ hp2 ls H1 locs (cl + 1) (sl + k0.toNat) hls (by rw [ws1_app, ← hH]; simp only [pE, List.getD_nil, Option.map_none]; exact hP1) (by rw [hz1, hH]; simp; omega) hS1 (by simp; omega) (by rw [szs_app]; simp only [szC]; omega)
        rw [nx] at w
        rw [hH]
        exact w
      · rename_i hci
        obtain ⟨g1, g2⟩ := clk_at hci
        obtain ⟨hk, hp2⟩ := bif_o hp
        simp only [Bool.and_eq_true, decide_eq_true_eq] at hk
        have mo := mono _ _ _ _ hp2
        have mo1 := mo.1; have mo2 := mo.2
        rw [szs_app] at mo2
        simp only [List.length_append, List.length_singleton, szC] at mo1 mo2
        have hir : ir k0 := by unfold ir; omega
        refine n1_newq hx hb hown (hts (Jvm.Cond.classLink (cn (oc y)) x0 "RegionStack$Text") (uw_mem g1 rfl)) hAO.2 (kA_name hKs 3 (.object "RegionStack$Text") rfl) hP hS (by rw [oi_0, oi_lt hir ir_0]; omega) (oi_nat hir hk.1) (show k0.toNat * 4 ≤ 536870912 by omega) (by omega) (by omega) hd (fun H1 hP1 hz1 hS1 => ?_)
        have w := ih _ _ _ _ hp2 ls H1 locs (cl + 1) (sl + k0.toNat) hls (by rw [ws1_app, ← hH]; simp only [pE, List.getD_nil, Option.map_none]; exact hP1) (by rw [hz1, hH]; simp; omega) hS1 (by simp; omega) (by rw [szs_app]; simp only [szC]; omega)
        rw [nx] at w
        rw [hH]
        exact w
      · cases hp
    · -- aastore
      rename_i v0 j0 a0 st0
      have nx : nd (bp y) (pc + 1) = nd (bp y) pc + 1 := of_decide_eq_true hLn
      have hd := dec1 hd nx
      split at hp
      · rename_i kk0 l0 fs0 ha hv
        obtain ⟨hk, hp2⟩ := bif_o hp
        simp only [Bool.and_eq_true, decide_eq_true_eq] at hk
        have hir : ir j0 := by unfold ir; omega
        have e1 := ws1_at (cA := cA) (N0 := N0) ha
        have e2 := ws1_at (cA := cA) (N0 := N0) hv
        refine n1_ast hx hb hKs hP (ws1_D h) hS a0 2 v0 0 e1 rfl e2 (kc_at (by omega)) ((oi_in hir).mpr ⟨hk.1.1.1, hk.1.1.2⟩) hd (fun H1 locs1 hP1 hz1 hS1 => ?_)
        rw [getD_fun l0 v0 N0 (Int32.ofInt j0) (by rw [oi_nat hir hk.1.1.1]; exact hk.2)] at hP1
        have w := ih _ _ _ _ hp2 ls H1 locs1 cl sl hls (by rw [ws1_set]; exact hP1) (by rw [hz1, hH]; simp) hS1 (by simp; omega) (by rw [szs_set h a0 _ _ ha (by rfl)]; exact hsz)
        rw [nx] at w
        exact w
      · rename_i kk0 l0 fs0 ha hv
        obtain ⟨hk, hp2⟩ := bif_o hp
        simp only [Bool.and_eq_true, decide_eq_true_eq] at hk
        have hir : ir j0 := by unfold ir; omega
        have e1 := ws1_at (cA := cA) (N0 := N0) ha
        have e2 := ws1_at (cA := cA) (N0 := N0) hv
        refine n1_ast hx hb hKs hP (ws1_D h) hS a0 3 v0 6 e1 rfl e2 (kc_at (by omega)) ((oi_in hir).mpr ⟨hk.1.1.1, hk.1.1.2⟩) hd (fun H1 locs1 hP1 hz1 hS1 => ?_)
        rw [getD_fun l0 v0 N0 (Int32.ofInt j0) (by rw [oi_nat hir hk.1.1.1]; exact hk.2)] at hP1
        have w := ih _ _ _ _ hp2 ls H1 locs1 cl sl hls (by rw [ws1_set]; exact hP1) (by rw [hz1, hH]; simp) hS1 (by simp; omega) (by rw [szs_set h a0 _ _ ha (by rfl)]; exact hsz)
        rw [nx] at w
        exact w
      · cases hp
    · -- getfield
      rename_i x0 ci0 k0 q0 a0 st0
      have nx : nd (bp y) (pc + 1) = nd (bp y) pc + 3 := of_decide_eq_true hLn
      have hd := dec1 hd nx
      split at hp
      · rename_i cj fs ha
        split at hp
        · rename_i v0 hv
          obtain ⟨hc, hp2⟩ := bif_o hp
          clear hp
          have hc := beq_t hc
          subst hc
          obtain ⟨g0, g0'⟩ := lkf_get hCk
          obtain ⟨g1, g2, g3, g4, g5, g6, g7⟩ := lkf_use g0
          rw [Nat.add_sub_cancel] at g1 g2 g6
          have w := ih _ _ _ _ hp2 ls H locs cl sl hls hP hH hS hcl hsz
          rw [nx] at w
          have e1 := ws1_at (cA := cA) (N0 := N0) ha
          have g6 : ((kc cj).2.1 k0).1 = (kc cj).1 := g6
          refine va_get (D := D) (ci := cj) (C := (kc cj).1) (T := (kc cj).2.1) (N := (kc cj).2.2) (v := pvV N0 v0) hx hb hts (uw_lay (by omega)) hown hKs hP a0 e1 (kc_at (by omega)) k0 g2 (hts _ (uw_mem g1 rfl)) (fun x hx' => by rw [g6] at hx'; exact hx') (by rw [List.getElem?_map, nth_get hv]; rfl) hd w
        · cases hp
      · cases hp
    · -- putfield
      rename_i x0 ci0 k0 q0 v0 a0 st0
      have nx : nd (bp y) (pc + 1) = nd (bp y) pc + 3 := of_decide_eq_true hLn
      have hd := dec1 hd nx
      split at hp
      · rename_i cj fs ha
        obtain ⟨hc, hp2⟩ := bif_o hp
        clear hp
        simp only [Bool.and_eq_true] at hc
        obtain ⟨⟨⟨hc, hoc⟩, hkl⟩, hq⟩ := hc
        have hc := beq_t hc
        have hoc := beq_t hoc
        subst hc
        have hkl := Nat.le_of_ble_eq_true hkl
        obtain ⟨g0, g0'⟩ := lkf_put hCk
        obtain ⟨g1, g2, g3, g4, g5, g6, g7⟩ := lkf_use g0
        rw [Nat.add_sub_cancel] at g1 g2 g6
        have e1 := ws1_at (cA := cA) (N0 := N0) ha
        have g6 : ((kc cj).2.1 k0).1 = (kc cj).1 := g6
        have g5 : tyq q0 ((kc cj).2.1 k0).2.2.1 = true := g5
        have hsame : ∀ x, s.fieldFound? ((kc cj).2.1 k0).1 ((kc cj).2.1 k0).2.1 ((kc cj).2.1 k0).2.2.1 = some x → s.fieldFound? (kc cj).1 ((kc cj).2.1 k0).2.1 ((kc cj).2.1 k0).2.2.1 = some x := fun x hx' => by rw [g6] at hx'; exact hx'
        have hown2 : cn (oc y) = (kc cj).1 := by rw [hoc]; exact cn_at (by omega)
        have ht := tyq_all (c := cj) (by omega) k0 g2
        have hnf : narrow (ty0 cj k0) (pvV N0 v0) = pvV N0 v0 ∧ fits (ty0 cj k0) (pvV N0 v0) = true := by
          rcases v0 with x | r
          · have hq := beq_t hq
            subst hq
            have e9 := of_decide_eq_true g5
            rw [e9] at ht
            have : parseFieldDescriptor "I" = some .int := by decide +kernel
            rw [this] at ht
            have ht2 := Option.some.inj ht
            rw [← ht2]
            exact ⟨rfl, rfl⟩
          · have hq := beq_t hq
            subst hq
            simp only [tyq, Bool.and_eq_true, Bool.not_eq_true'] at g5
            have h9 := List.all_eq_true.mp (List.all_eq_true.mp refTy_all cj (List.mem_range.mpr (by omega))) k0 (List.mem_range.mpr g2)
            simp only [isI, g5.1, g5.2, Bool.or_self, Bool.false_or] at h9
            cases hty : ty0 cj k0 <;> rw [hty] at h9 <;> first | cases h9 | skip
            all_goals rcases r with _ | r <;> exact ⟨rfl, rfl⟩
        refine n1_put (D := D) (ci := cj) (C := (kc cj).1) (T := (kc cj).2.1) (N := (kc cj).2.2) hx hb hts (uw_lay (by omega)) (ty0 cj) (tyq_all (by omega)) (nmq_all (by omega)) hown hKs hP (ws1_D h) hS a0 e1 (kc_at (by omega)) k0 g2 (hts _ (uw_mem g1 rfl)) hsame (fun _ => ⟨hin, by rw [g6, hown2]⟩) ht hnf.1 hnf.2 (by simp; omega) hd (fun H1 locs1 hP1 hz1 hS1 => ?_)
        have w := ih _ _ _ _ hp2 ls H1 locs1 cl sl hls (by rw [ws1_set]; simp only [pE, List.map_set]; exact hP1) (by rw [hz1, hH]; simp) hS1 (by simp; omega) (by rw [szs_set h a0 _ _ ha (by simp [szC])]; exact hsz)
        rw [nx] at w
        exact w
      · cases hp
    · -- arraylength
      rename_i a0 st0
      have nx : nd (bp y) (pc + 1) = nd (bp y) pc + 1 := of_decide_eq_true hLn
      have hd := dec1 hd nx
      split at hp
      · rename_i k0 m0 l0 ha
        obtain ⟨hk, hp2⟩ := bif_o hp
        simp only [Bool.and_eq_true] at hk
        obtain ⟨⟨hk1, hk2⟩, hk3⟩ := hk
        have hk1 := Nat.le_of_ble_eq_true hk1
        have hk2 := Nat.le_of_ble_eq_true hk2
        have hk3 := Nat.le_of_ble_eq_true hk3
        have w := ih _ _ _ _ hp2 ls H locs cl sl hls hP hH hS hcl hsz
        rw [nx] at w
        have e1 := ws1_at (cA := cA) (N0 := N0) ha
        have h4 : k0 = 1 ∨ k0 = 2 ∨ k0 = 3 ∨ k0 = 4 := by omega
        rcases h4 with rfl | rfl | rfl | rfl
        · exact va_alen hx hb hKs hP a0 0 e1 (ty := .int) rfl rfl hd w
        · exact va_alen hx hb hKs hP a0 1 e1 (ty := .boolean) rfl rfl hd w
        · exact va_alen hx hb hKs hP a0 2 e1 (ty := .object "RegionStack$Body") rfl rfl hd w
        · exact va_alen hx hb hKs hP a0 3 e1 (ty := .object "RegionStack$Text") rfl rfl hd w
      · cases hp
    · -- if_icmp ge
      rename_i off t0 y0 x0 st0
      have nx : nd (bp y) (pc + 1) = nd (bp y) pc + 3 := of_decide_eq_true hLn
      have hd := dec1 hd nx
      obtain ⟨hk, hp2⟩ := bif_o hp
      simp only [Bool.and_eq_true] at hk
      have hx0 := irB_at hk.1
      have hy0 := irB_at hk.2
      refine lv_icmp_ge hx hb hd (of_decide_eq_true hT) (fun q => ?_) (fun q => ?_)
      · have q := (oi_le hy0 hx0).mp q
        rw [decide_eq_true q, cond_true] at hp2
        exact ih _ _ _ _ hp2 ls H locs cl sl hls hP hH hS hcl hsz
      · have q : ¬ y0 ≤ x0 := fun z => q ((oi_le hy0 hx0).mpr z)
        rw [decide_eq_false q, cond_false] at hp2
        have w := ih _ _ _ _ hp2 ls H locs cl sl hls hP hH hS hcl hsz
        rw [nx] at w
        exact w
    · -- ifle
      rename_i off t0 x0 st0
      have nx : nd (bp y) (pc + 1) = nd (bp y) pc + 3 := of_decide_eq_true hLn
      have hd := dec1 hd nx
      obtain ⟨hk, hp2⟩ := bif_o hp
      have hx0 := irB_at hk
      refine lv_if_le hx hb hd (of_decide_eq_true hT) (fun q => ?_) (fun q => ?_)
      · have q := (oi_le hx0 ir_0).mp q
        rw [decide_eq_true q, cond_true] at hp2
        exact ih _ _ _ _ hp2 ls H locs cl sl hls hP hH hS hcl hsz
      · have q : ¬ x0 ≤ 0 := fun z => q ((oi_le hx0 ir_0).mpr z)
        rw [decide_eq_false q, cond_false] at hp2
        have w := ih _ _ _ _ hp2 ls H locs cl sl hls hP hH hS hcl hsz
        rw [nx] at w
        exact w
    · -- goto
      rename_i off t0
      have nx : nd (bp y) (pc + 1) = nd (bp y) pc + 3 := of_decide_eq_true hLn
      have hd := dec1 hd nx
      have w := ih _ _ _ _ hp ls H locs cl sl hls hP hH hS hcl hsz
      exact lv_goto hx hb hd (of_decide_eq_true hT) w
    · -- iinc
      rename_i i0 k0
      have nx : nd (bp y) (pc + 1) = nd (bp y) pc + 3 := of_decide_eq_true hLn
      have hd := dec1 hd nx
      split at hp
      · rename_i x0 hr
        obtain ⟨hk, hp2⟩ := bif_o hp
        have hi := nth_lt _ _ _ hr
        obtain ⟨e1, l0, e2, e3⟩ := hls
        obtain ⟨k, hk⟩ := List.getElem?_of_mem (e3 _ _ hr)
        refine lv_iinc (v := Int32.ofInt (x0 + k0)) hx hb hd e2 hk (by rw [Int32.ofInt_add]) (by rw [← e1]; exact hi) rfl fun ls' hl' => ?_
        have w := ih _ _ _ _ hp2 ls' H locs cl sl (L1.set (v := .inl (x0 + k0)) e1 e3 hl') hP hH hS hcl hsz
        rw [nx] at w
        exact w
      · cases hp
    · -- Object.<init>
      rename_i x0 a0 st0
      have nx : nd (bp y) (pc + 1) = nd (bp y) pc + 3 := of_decide_eq_true hLn
      have hd := dec1 hd nx
      obtain ⟨hk, hp2⟩ := bif_o hp
      simp only [Bool.and_eq_true] at hk
      have hlink : Jvm.Cond.methodLink (cn (oc y)) x0 Lib.objectInit ∈ lw_tbl := by
        obtain ⟨⟨e1, e2, e3⟩, he, hc⟩ := List.any_eq_true.mp hk.1
        simp only [Bool.and_eq_true, decide_eq_true_eq] at hc
        obtain ⟨rfl, rfl⟩ := hc
        exact lw_mem (List.all_eq_true.mp lko_ok _ he)
      have h8 := Nat.le_of_ble_eq_true hk.2
      have w := ih _ _ _ _ hp2 ls H locs cl sl hls hP hH hS hcl hsz
      rw [nx] at w
      obtain ⟨e1, l0, e2, e3⟩ := hls
      refine W.objInit hx hb hown (hts _ (uw_mem hlink rfl)) (hts _ (uw_mem ob_inst rfl)) (hts _ (uw_mem ob_code rfl)) rfl (by rw [hml]; exact e2.1) rfl hd (by omega) (by rw [p_sum]; show 2 * 0 + _ + 12 ≤ _; omega) ?_
      exact w
    · -- a constructor
      rename_i x0 y0 n0 c0
      have nx : nd (bp y) (pc + 1) = nd (bp y) pc + 3 := of_decide_eq_true hLn
      have hd := dec1 hd nx
      split at hp
      · rename_i as0 st0 htk
        obtain ⟨hk, hp2⟩ := bif_o hp
        clear hp
        simp only [Bool.and_eq_true, Bool.or_eq_true, mlk] at hk
        obtain ⟨⟨hlk, hk2⟩, h8, hrf⟩ := hk
        have hk2 := beq_t hk2
        have h8 := Nat.le_of_ble_eq_true h8
        split at hp2
        · rename_i h' hcl'
          obtain ⟨hy0, hyn, hM⟩ := hCal _ _ _ _ hcl'
          obtain ⟨p1', p2', p3', p4', p5', p6', p7', p8', p9', p10'⟩ := pl_at hy0
          obtain ⟨i1, i2, i3, i4⟩ := in_at hyn
          have mo0 := hCm _ _ _ _ hcl'
          have mo := mono _ _ _ _ hp2
          have m1 := mo0.1; have m2 := mo0.2; have m3 := mo.1; have m4 := mo.2
          obtain ⟨us, u1, u2, u3⟩ := takeN_at _ _ _ _ _ htk
          rw [List.append_nil] at u3
          rcases as0 with _ | ⟨v0, as1⟩
          · cases hrf
          rcases v0 with v0 | r0
          · cases hrf
          rcases r0 with _ | b9
          · cases hrf
          have hst : st.map (pvV N0) = (as1.map (pvV N0)).reverse ++ .ref (N0 + b9) :: st0.map (pvV N0) := by
            have : us = as1.reverse ++ [.inr (some b9)] := by rw [← List.reverse_reverse us, ← u3, List.reverse_cons]
            rw [u2, this]
            simp only [List.map_append, List.map_reverse, List.map_cons, List.map_nil, pvV, List.append_assoc, List.singleton_append]
          have hlen : (as1.map (pvV N0)).length = np y0 := by
            have : (us.length) = as1.length + 1 := by rw [← List.length_reverse, ← u3]; rfl
            rw [List.length_map]; omega
          have hblind : FrameBlind (Pc1 D cA N0 (.inr (some b9) :: as1) h) := fun a U g mk q => by
            obtain ⟨q0, qP, qz, qK, qN, qA⟩ := q
            exact ⟨q0, qP, qz, va_K.moved (u := U) (U := U.calling g mk a) (Vm.Alike.refl U.vm) qK, NW.same (u := U) rfl qN, ⟨va_AO.moved (u := U) (U := U.calling g mk a) (Vm.Alike.refl U.vm) qA.1, va_AO.moved (u := U) (U := U.calling g mk a) (Vm.Alike.refl U.vm) qA.2⟩⟩
          have hpre : ∀ U : State, U.heap = H → s.WarmedH U.vm → Pc1 D cA N0 (.inr (some b9) :: as1) h (Value.ref (N0 + b9) :: as1.map (pvV N0)).toArray U := fun U hU hW => ⟨rfl, by rw [hU]; exact hP, by rw [hU]; exact hH, va_K.moved hW.alike hKs, NW.moved hW hNW, ⟨va_AO.moved hW.alike hAO.1, va_AO.moved hW.alike hAO.2⟩⟩
          have hroom : (rm1 d (h'.length - h.length) (szs h' - szs h)).frames + 1 ≤ R.frames ∧ 8 + (nl y0 + 11) + (rm1 d (h'.length - h.length) (szs h' - szs h)).locals ≤ R.locals := ⟨hfr, by show 8 + (nl y0 + 11) + 32 * d ≤ R.locals; omega⟩
          have hWr : 2 * (F0 m (nd (bp y) pc) ls (st.map (pvV N0))).monitorRoom + ((st0.map (pvV N0)).map fun v => v.category).sum ≤ 8 := lv_room (by rw [p_sum]; exact h8)
          have hsz9 : ls.size = nl y := by obtain ⟨-, l0, q, -⟩ := hls; exact q.1
          have hro : cl + (h'.length - h.length) ≤ R.cells ∧ sl + (szs h' - szs h) ≤ R.slots := ⟨by omega, by omega⟩
          have kk : ∀ (t : State) (H1 : Heap) (locs1 : List Loc), t.heap = H1 → s.vm.Alike t.vm → (va_P D vwCl (ws1 cA N0 h') t.heap ∧ t.heap.size = N0 + h'.length) → va_S (fun q => N0 ≤ q) s.heap H1 locs1 → W p l e₀ R s m args below meth c H1 locs1 (cl + (h'.length - h.length)) (sl + (szs h' - szs h)) Q (F0 m (nd (bp y) pc + 3) ls ((none : Option Value).toList ++ st0.map (pvV N0))) := by
            intro t H1 locs1 ht _ hB hS1
            rw [ht] at hB
            have w := ih _ _ _ _ hp2 ls H1 locs1 (cl + (h'.length - h.length)) (sl + (szs h' - szs h)) hls hB.1 hB.2 hS1 (by omega) (by omega)
            rw [nx] at w
            exact w
          rcases hlk with hlk | hlk
          · have hlink : Jvm.Cond.methodLink (cn (oc y)) x0 (nm y0) ∈ lw_tbl := by
              obtain ⟨⟨e1, e2, e3, e4⟩, he, hc⟩ := List.any_eq_true.mp hlk
              simp only [Bool.and_eq_true, decide_eq_true_eq] at hc
              obtain ⟨⟨rfl, rfl⟩, rfl⟩ := hc
              exact lw_mem (List.all_eq_true.mp lkm_ok _ he)
            have cw := cwI (R := R) (s := s) (args := args) (own := cn (oc y)) (index := x0) (y := nm y0) (bytes := byt y0) (maxL := nl y0) (ws := wsM y0) (rm := rm1 d (h'.length - h.length) (szs h' - szs h)) (mc := h'.length - h.length) (ms := szs h' - szs h) (np y0) hts (good_wsM p10') (by unfold wsM; rw [i3]) rfl rfl (hts _ p1') (hts _ (uw_mem hlink rfl)) (hts _ (p3' i1)) i2 p6' hroom
            have hrun := va_runI (p := p) (l := l) (e := e₀) (below := below) (meth := meth) (locs := locs) (cells := cl) (slots := sl) (g := F0 m (nd (bp y) pc) ls (st.map (pvV N0))) (As := as1.map (pvV N0)) (rest := st0.map (pvV N0)) ⟨hx, hb, hml, hown, hts⟩ hM cw ⟨hblind, hpre⟩ rfl hlen hsz9 hst hWr hd hro
            exact va_callg hrun hS kk
          · have hl9 : va_Nw (.methodLinkNest (cn (oc y)) x0 (nm y0) "RegionStack") s := by
              obtain ⟨⟨e1, e2, e3, e4⟩, he, hc⟩ := List.any_eq_true.mp hlk
              simp only [Bool.and_eq_true, decide_eq_true_eq] at hc
              obtain ⟨⟨rfl, rfl⟩, rfl⟩ := hc
              exact hNW _ he
            have cw := va_cnB (R := R) (s := s) (args := args) (own := cn (oc y)) (host := "RegionStack") (index := x0) (y := nm y0) (bytes := byt y0) (maxL := nl y0) (ret := none) (ws := wsM y0) (rm := rm1 d (h'.length - h.length) (szs h' - szs h)) (mc := h'.length - h.length) (ms := szs h' - szs h) (np y0) hts (good_wsM p10') (by unfold wsM; rw [i3]) rfl rfl hl9 (hts _ p1') p6' hroom
            have hrun := va_runIN (p := p) (l := l) (e := e₀) (below := below) (meth := meth) (locs := locs) (cells := cl) (slots := sl) (g := F0 m (nd (bp y) pc) ls (st.map (pvV N0))) (As := as1.map (pvV N0)) (rest := st0.map (pvV N0)) ⟨hx, hb, hml, hown, hts⟩ hM ⟨cw, i2, hts _ (p3' i1)⟩ ⟨hblind, hpre⟩ rfl hlen hsz9 hst hWr hd hro
            exact va_callg hrun hS kk
        · cases hp2
      · cases hp
    · -- return
      have hd : decode (byt y) (nd (bp y) pc) = .ok (.return_, 1) := dec1 hd (of_decide_eq_true hLn)
      cases hp
      exact hret _ ls H locs cl sl hP hH hS hcl hsz hd
    · cases hp
end P1S
theorem p_args {N0 : Nat} : ∀ (as : List PV), lg_sl (as.map (pvV N0)) = (as.map (pvV N0)).map Slot.val
  | [] => rfl
  | a :: as => by
    have := p_args (N0 := N0) as
    simp only [lg_sl, List.map_cons, List.flatMap_cons] at this ⊢
    rw [this, pcat]
    simp
theorem p_lv {N0 : Nat} : ∀ (as : List PV) (k i : Nat) (v : PV), nth (as.map some) i = some (some v) → (k + i, pvV N0 v) ∈ lv_args k (as.map (pvV N0))
  | [], _, _, _, h => by simp [nth] at h
  | a :: as, k, i, v, h => by
    simp only [List.map_cons, lv_args, pcat]
    cases i with
    | zero =>
      simp only [List.map_cons, nth, Option.some.injEq] at h
      subst h
      exact List.mem_cons_self
    | succ i =>
      simp only [List.map_cons, nth] at h
      have := p_lv (N0 := N0) as (k + 1) i v h
      rw [show k + (i + 1) = k + 1 + i by omega]
      refine List.mem_cons_of_mem _ ?_
      simpa using this
theorem nth_app2 {α : Type} : ∀ (as bs : List α) (i : Nat) (v : α), nth (as ++ bs) i = some v → nth as i = some v ∨ ∃ j, nth bs j = some v
  | [], bs, i, v, h => Or.inr ⟨i, h⟩
  | a :: as, bs, 0, v, h => Or.inl h
  | a :: as, bs, i + 1, v, h => nth_app2 as bs i v h
theorem L1_ent {N0 n : Nat} {as : List PV} (hl : as.length ≤ n) : L1 N0 n ((lg_sl (as.map (pvV N0)) ++ List.replicate (n - (lg_sl (as.map (pvV N0))).length) Slot.unset).toArray) (as.map some ++ List.replicate (n - as.length) none) := by
  have hs := p_args (N0 := N0) as
  have hlen : (lg_sl (as.map (pvV N0))).length = as.length := by rw [hs]; simp
  refine ⟨by simp; omega, _, lv_entry (as.map (pvV N0)) (by rw [hlen]; exact hl), fun i v hi => ?_⟩
  rcases nth_app2 _ _ _ _ hi with q | ⟨j, q⟩
  · have := p_lv (N0 := N0) as 0 i v q
    rwa [Nat.zero_add] at this
  · have := (List.mem_replicate.mp (nth_mem _ _ _ q)).2
    cases this
/-- a run of the list machine gives a constructor's contract -/
theorem P1_met {l : Launch} {D : va_G} {cA : Nat → ClassId} {N0 : Nat} : ∀ (d y : Nat) (as : List PV) (h h' : PH), P1 d y as h = some h' → y < 140 ∧ y ∈ inL ∧ Met l (nm y) (wsM y) (rm1 d (h'.length - h.length) (szs h' - szs h)) (Pc1 D cA N0 as h) (Qc1 D cA N0 h') (h'.length - h.length) (szs h' - szs h) (fun q => N0 ≤ q)
  | 0, _, _, _, _, hp => by simp [P1] at hp
  | d + 1, y, as, h, h', hp => by
    have mo := P1_mono _ _ _ _ _ hp
    simp only [P1] at hp
    obtain ⟨hk, hp⟩ := bif_o hp
    simp only [Bool.and_eq_true, decide_eq_true_eq] at hk
    obtain ⟨⟨hn, hy⟩, hl⟩ := hk
    have hn : y ∈ inL := by rw [List.elem_eq_mem] at hn; exact of_decide_eq_true hn
    have hl := Nat.le_of_ble_eq_true hl
    obtain ⟨p1', p2', p3', p4', p5', p6', p7', p8', p9', p10'⟩ := pl_at hy
    obtain ⟨i1, i2, i3, i4⟩ := in_at hn
    refine ⟨hy, hn, ?_⟩
    refine Met.ofW (cc := byt y) (maxL := nl y) (ret := rt y) p5' rfl ?_
    intro p e s m args below meth c s₁ B hml hv
    obtain ⟨rfl, hP, hz, hK, hN, hA⟩ := hv
    have hts := atoms_spec (ws := wsM y) B.pre
    have hown : s.vm.findClass (nm y).cls = some m.cls := findClass_of_methodNamed B.named
    have hlocks := B.notSynchronized
    have hr := B.returns
    have hF : FX1 p s m (as.map (pvV N0)).toArray meth c D cA N0 y := ⟨B.exec, B.bytes, hml, by rw [← p8']; exact hown, fun w hw => hts w (List.mem_cons_of_mem _ hw), hK, hN, hA, by omega, by rw [← i2]; exact (name_of_methodNamed B.named B.method).1⟩
    have m1 := mo.1; have m2 := mo.2
    have hw := p1_sound (p := p) (l := l) (e₀ := e) (below := below) (meth := meth) (R := (headSpec (wsM y) (rm1 (d + 1) (h'.length - h.length) (szs h' - szs h))).room) (Q := MQ below (Qc1 D cA N0 h') (as.map (pvV N0)).toArray s (h'.length - h.length) (szs h' - szs h) (fun q => N0 ≤ q)) (d := d) (b0 := h.length) (z0 := szs h) hF hn (hf := h') (fun y' as h h' q => P1_mono d y' as h h' q) (fun y' as h h' q => P1_met d y' as h h' q) (Nat.le_refl _) (Nat.le_refl _) (show h'.length ≤ h.length + (h'.length - h.length) by omega) (show szs h' ≤ szs h + (szs h' - szs h) by omega) ?_ 400 0 _ [] h hp
    · have hb0 : nd (bp y) 0 = 0 := bp0 hy
      have := hw _ s.heap [] 0 0 (L1_ent hl) hP hz va_S.rf (by omega) (by omega)
      rw [hb0] at this
      rw [lg_entry_eq]
      exact this
    · intro pc0 ls H locs cl sl k1 k2 k3 k4 k5 k6
      obtain rfl : cl = h'.length - h.length := by omega
      obtain rfl : sl = szs h' - szs h := by omega
      exact W.vret B.exec B.bytes (by rw [hr, i3]) (fun t ht hW => ⟨rfl, ⟨by rw [ht]; exact k1, by rw [ht]; exact k2⟩, k3.F ht⟩) k3.2.2 k6
