/-! THE CLAIM OUT OF ONE WALK OF THE LAW'S BODY. Your part is whole_start (and what it stands on); all else here is the same for every law, but numbers. -/
def R_law : String := "RegionStackLaw"
def lw_P (b : Addr) (xs : List Int32) (args : Array Value) (s : State) : Prop := args = #[.ref b] ∧ s.IntsAt b xs ∧ xs.length ≤ 2048 ∧ (Jvm.Cond.and given_1 narrow_1).before args s = true
def lw_Q (_ : Array Value) (s : State) (o : Outcome) (t : State) : Prop := o = .returned (some (.int 1)) ∧ Framed s o t [] 600000 7302249
def lw_Z (below : List Frame) (a : Array Value) (s : State) : State → Prop := fun t => ∃ o, t.status = .running ∧ Ended t below o ∧ lw_Q a s o t
/-- the law's own end, with 1 on the stack, nothing written that was there before, its room as the claim has it -/
theorem lw_ret {p : Program} {l : Launch} {e : Env} {s : State} {m : MethodId} {below : List Frame} {meth : Method} {c : Code} {b : Nat} (hx : p.tables.exec = Jvm.exec) (hb : c.code = code) (hr : meth.sig.returnType = ret) (hlocks : meth.locks = false) {pc : Nat} {H : Heap} {ls : Array Slot} (hdg : decode code pc = .ok (.ireturn, 1)) : W p l e room_1 s m #[Value.ref b] below meth c H [] 600000 7302249 (lw_Z below #[Value.ref b] s) (F0 m pc ls [.int 1]) := by
  intro T hT X
  obtain ⟨fs, hret, hrun, hended, hW, hframe⟩ := X.leave (v := some (.int 1)) (hlocks := hlocks) (fun h => by rw [hr] at h; cases h)
  have hmeth' : T.vm.method? m = some meth := X.method'
  refine ⟨T.setFrames fs, ?_, .returned (some (.int 1)), hrun, hended, rfl, ⟨_, rfl⟩, hW, hframe⟩
  jvm_step X.here [X.here.top, hx, hb, hdg, hmeth', hr, ret, narrow_b1]
  (try refine ⟨rfl, ?_⟩); (try refine ⟨rfl, ?_⟩)
  first | (intro acts; rw [hret _ acts rfl rfl rfl]) | rw [hret _ _ rfl rfl rfl]
  exact Steps.refl _
/-- what holds at the law's entry: the machine, the code, the tables' words (any of lw_tbl by 'hts w (by decide +kernel)'), the script of L ints xs at the cell b, what the Statement gives of the start (any of its parts by flat_of_before) -/
def lw_At (p : Program) (s : State) (m : MethodId) (meth : Method) (c : Code) (b L : Nat) (xs : Nat → Int32) : Prop :=
  p.tables.exec = Jvm.exec ∧ c.code = code ∧ meth.sig.returnType = ret ∧ c.maxLocals = 4 ∧ s.vm.findClass R_law = some m.cls ∧ (∀ w ∈ lw_tbl, w.before #[Value.ref b] s = true) ∧ va_X b L xs s s.heap ∧ b < s.heap.size ∧ meth.locks = false ∧ (Jvm.Cond.and given_1 narrow_1).before #[Value.ref b] s = true

/-! ===== the law from its entry ===== -/
theorem K_start {s : State} {args : Array Value} (hts : ∀ w ∈ lw_tbl, w.before args s = true) : ∃ (D : va_G) (cA : Nat → ClassId), va_K D vwCl (tyA cA) s ∧ NW s ∧ AO s := by
  have hU : ∀ w ∈ UW, w.before args s = true := fun w hw => hts w (List.mem_filter.mp hw).1
  have hK1 : ∀ c : Nat, ∃ q : ClassId × (Nat → Nat), ∀ r : vw_C, vwCl[c]? = some r → u_Kn s r.1 r.2.1 r.2.2 q.1 q.2 := by
    intro c
    by_cases hc : c < 9
    · obtain ⟨cC, iS, h⟩ := u_known (C := (kc c).1) (T := (kc c).2.1) (N := (kc c).2.2) (n := (kc c).2.2) hU (uw_lay hc) (hts _ (ins_at hc).1)
      refine ⟨(cC, iS), fun r hr => ?_⟩
      rw [kc_at hc] at hr
      have hr := Option.some.inj hr
      rw [← hr]
      exact h
    · refine ⟨(0, fun _ => 0), fun r hr => ?_⟩
      have hl : vwCl.length = 9 := rfl
      rw [List.getElem?_eq_none (by omega)] at hr
      cases hr
  obtain ⟨c1, k1, m1, f1, g1, e1⟩ := Cond.arrayClass_spec (hts _ ar_int)
  obtain ⟨c2, k2, m2, f2, g2, e2⟩ := Cond.arrayClass_spec (hts _ ar_bool)
  obtain ⟨m3, c3, k3, h3, i3, g3, e3, f3⟩ := Cond.arrayOver_spec (hts _ ar_body)
  obtain ⟨m4, c4, k4, h4, i4, g4, e4, f4⟩ := Cond.arrayOver_spec (hts _ ar_text)
  refine ⟨(fun c => (Classical.choose (hK1 c)).1, fun c => (Classical.choose (hK1 c)).2), fun k => if k = 1 then c1 else if k = 2 then c2 else if k = 3 then c3 else c4, ⟨fun c r hr => Classical.choose_spec (hK1 c) r hr, fun k q hq => ?_⟩, fun e he => va_Nw.of rfl (hts _ (lw_mem (List.all_eq_true.mp lkn_ok e he))), va_AO.of (hts _ ar_body), va_AO.of (hts _ ar_text)⟩
  match k, hq with
  | 0, hq => cases hq; exact ⟨fun n z => ⟨(fun _ h => by cases h), k1, g1, m1, e1⟩, f1⟩
  | 1, hq => cases hq; exact ⟨fun n z => ⟨(fun _ h => by cases h), k2, g2, m2, e2⟩, f2⟩
  | 2, hq => cases hq; exact ⟨fun n z => ⟨(fun _ h => by cases h), k3, g3, m3, e3⟩, k3, m3, g3, e3, h3, f3⟩
  | 3, hq => cases hq; exact ⟨fun n z => ⟨(fun _ h => by cases h), k4, g4, m4, e4⟩, k4, m4, g4, e4, h4, f4⟩
  | k + 4, hq => simp [tyA] at hq
section ENTRY
variable {p : Program} {l : Launch} {e : Env} {s : State} {m : MethodId} {args : Array Value} {below : List Frame} {meth : Method} {c : Code} {H : Heap} {locs : List Loc} {Q : State → Prop}
variable {pc : Nat} {ls : Array Slot} {rest : List Value} {D : va_G} {cA : Nat → ClassId} {N0 : Nat}
def FL (p : Program) (s : State) (m : MethodId) (args : Array Value) (c : Code) (D : va_G) (cA : Nat → ClassId) (N0 : Nat) : Prop :=
  p.tables.exec = Jvm.exec ∧ c.code = code ∧ c.maxLocals = 4 ∧ s.vm.findClass (cn 9) = some m.cls ∧ (∀ w ∈ UW, w.before args s = true) ∧ va_K D vwCl (tyA cA) s ∧ NW s ∧ AO s ∧ N0 ≤ s.heap.size
theorem law_new (hF : FL p s m args c D cA N0) {ci x0 : Nat} {h : PH} (hci : clk 9 x0 = some ci) (hP : va_P D vwCl (ws1 cA N0 h) H) (hH : H.size = N0 + h.length) (hS : va_S (fun q => N0 ≤ q) s.heap H locs) (hd : decode code pc = .ok (.new x0, 3)) (hc : h.length + 1 ≤ 600000) (hs : szs (h ++ [(.inl (ci, blankF ci) : PC)]) ≤ 7302249)
    (kk : ∀ H1 : Heap, va_P D vwCl (ws1 cA N0 (h ++ [(.inl (ci, blankF ci) : PC)])) H1 → H1.size = N0 + (h ++ [(.inl (ci, blankF ci) : PC)]).length → va_S (fun q => N0 ≤ q) s.heap H1 locs → W p l e room_1 s m args below meth c H1 locs (h.length + 1) (szs (h ++ [(.inl (ci, blankF ci) : PC)])) Q (F0 m (pc + 3) ls (.ref (N0 + h.length) :: rest))) :
    W p l e room_1 s m args below meth c H locs h.length (szs h) Q (F0 m pc ls rest) := by
  obtain ⟨hx, hb, hml, hown, hts, hKs, hNW, hAO, hN0⟩ := hF
  obtain ⟨g1, g2⟩ := clk_at hci
  obtain ⟨g3, g4⟩ := ins_at g2
  have hbl : (blankF ci).length = (kc ci).2.2 := by simp [blankF]
  have hsC : szs (h ++ [(.inl (ci, blankF ci) : PC)]) = szs h + (kc ci).2.2 := by rw [szs_app]; show _ + (blankF ci).length = _; rw [hbl]
  rw [hsC] at hs
  refine n1_new (fs := (blankF ci).map (pvV N0)) hx hb hts (uw_lay g2) (ty0 ci) (tyq_all g2) hown (hts _ (uw_mem g1 rfl)) (hts _ (uw_mem g3 rfl)) (hts _ (uw_mem g4 rfl)) hKs hP hS (kc_at g2) (fun j hj => blank_V g2 hj) hc hs hd (fun H1 hP1 hz1 hS1 => ?_)
  have w := kk H1 (by rw [ws1_app, ← hH]; exact hP1) (by rw [hz1, hH, List.length_append]; rfl) hS1
  rw [hsC, ← hH] at w
  exact w
theorem law_ctor (hF : FL p s m args c D cA N0) {y0 x0 b9 : Nat} {h h' : PH} (hp : P1 8 y0 [.inr (some b9)] h = some h') (hnp : np y0 = 0) (hlink : Jvm.Cond.methodLink (cn 9) x0 (nm y0) ∈ lw_tbl) (hls : ls.size = 4) (hP : va_P D vwCl (ws1 cA N0 h) H) (hH : H.size = N0 + h.length) (hS : va_S (fun q => N0 ≤ q) s.heap H locs) (hd : decode code pc = .ok (.invokespecial x0, 3)) (hc : h'.length ≤ 600000) (hs : szs h' ≤ 7302249) (hr : (rest.map fun v => v.category).sum ≤ 8)
    (kk : ∀ (H1 : Heap) (locs1 : List Loc), va_P D vwCl (ws1 cA N0 h') H1 → H1.size = N0 + h'.length → va_S (fun q => N0 ≤ q) s.heap H1 locs1 → W p l e room_1 s m args below meth c H1 locs1 h'.length (szs h') Q (F0 m (pc + 3) ls rest)) :
    W p l e room_1 s m args below meth c H locs h.length (szs h) Q (F0 m pc ls (.ref (N0 + b9) :: rest)) := by
  obtain ⟨hx, hb, hml, hown, hts, hKs, hNW, hAO, hN0⟩ := hF
  obtain ⟨hy0, hyn, hM⟩ := P1_met (l := l) (D := D) (cA := cA) (N0 := N0) 8 y0 _ _ _ hp
  obtain ⟨p1', p2', p3', p4', p5', p6', p7', p8', p9', p10'⟩ := pl_at hy0
  obtain ⟨i1, i2, i3, i4⟩ := in_at hyn
  have mo := P1_mono _ _ _ _ _ hp
  have m1 := mo.1
  have m2 := mo.2
  have hblind : FrameBlind (Pc1 D cA N0 [.inr (some b9)] h) := fun a U g mk q => by
    obtain ⟨q0, qP, qz, qK, qN, qA⟩ := q
    exact ⟨q0, qP, qz, va_K.moved (u := U) (U := U.calling g mk a) (Vm.Alike.refl U.vm) qK, NW.same (u := U) rfl qN, ⟨va_AO.moved (u := U) (U := U.calling g mk a) (Vm.Alike.refl U.vm) qA.1, va_AO.moved (u := U) (U := U.calling g mk a) (Vm.Alike.refl U.vm) qA.2⟩⟩
  have hpre : ∀ U : State, U.heap = H → s.WarmedH U.vm → Pc1 D cA N0 [.inr (some b9)] h (Value.ref (N0 + b9) :: ([] : List Value)).toArray U := fun U hU hW => ⟨rfl, by rw [hU]; exact hP, by rw [hU]; exact hH, va_K.moved hW.alike hKs, NW.moved hW hNW, ⟨va_AO.moved hW.alike hAO.1, va_AO.moved hW.alike hAO.2⟩⟩
  have hroom : (rm1 8 (h'.length - h.length) (szs h' - szs h)).frames + 1 ≤ room_1.frames ∧ 8 + (nl y0 + 11) + (rm1 8 (h'.length - h.length) (szs h' - szs h)).locals ≤ room_1.locals := ⟨by show 8 + 1 ≤ 10; omega, by show 8 + (nl y0 + 11) + 32 * 8 ≤ 382; omega⟩
  have hro : h.length + (h'.length - h.length) ≤ room_1.cells ∧ szs h + (szs h' - szs h) ≤ room_1.slots := ⟨by show _ ≤ 600000; omega, by show _ ≤ 7302249; omega⟩
  have cw := cwI (R := room_1) (s := s) (args := args) (own := cn 9) (index := x0) (y := nm y0) (bytes := byt y0) (maxL := nl y0) (ws := wsM y0) (rm := rm1 8 (h'.length - h.length) (szs h' - szs h)) (mc := h'.length - h.length) (ms := szs h' - szs h) (np y0) hts (good_wsM p10') (by unfold wsM; rw [i3]) rfl rfl (hts _ p1') (hts _ (uw_mem hlink rfl)) (hts _ (p3' i1)) i2 p6' hroom
  have hrun := va_runI (p := p) (l := l) (e := e) (below := below) (meth := meth) (locs := locs) (cells := h.length) (slots := szs h) (g := F0 m pc ls (.ref (N0 + b9) :: rest)) (As := []) (rest := rest) ⟨hx, hb, hml, hown, hts⟩ hM cw ⟨hblind, hpre⟩ rfl hnp.symm hls rfl (lv_room hr) hd hro
  have kk' : ∀ (t : State) (H1 : Heap) (locs1 : List Loc), t.heap = H1 → s.vm.Alike t.vm → (va_P D vwCl (ws1 cA N0 h') t.heap ∧ t.heap.size = N0 + h'.length) → va_S (fun q => N0 ≤ q) s.heap H1 locs1 → W p l e room_1 s m args below meth c H1 locs1 (h.length + (h'.length - h.length)) (szs h + (szs h' - szs h)) Q (F0 m (pc + 3) ls ((none : Option Value).toList ++ rest)) := by
    intro t H1 locs1 ht _ hB hS1
    rw [ht] at hB
    have w := kk H1 locs1 hB.1 hB.2 hS1
    rw [show h.length + (h'.length - h.length) = h'.length by omega, show szs h + (szs h' - szs h) = szs h' by omega]
    exact w
  exact va_callg hrun hS kk'
end ENTRY
theorem dl_0 : decode code 0 = .ok (.new 7, 3) := by decide +kernel
theorem dl_3 : decode code 3 = .ok (.dup, 1) := by decide +kernel
theorem dl_4 : decode code 4 = .ok (.invokespecial 9, 3) := by decide +kernel
theorem dl_7 : decode code 7 = .ok (.astore_n 1, 1) := by decide +kernel
theorem dl_8 : decode code 8 = .ok (.new 10, 3) := by decide +kernel
theorem dl_11 : decode code 11 = .ok (.dup, 1) := by decide +kernel
theorem dl_12 : decode code 12 = .ok (.invokespecial 12, 3) := by decide +kernel
theorem dl_15 : decode code 15 = .ok (.astore_n 2, 1) := by decide +kernel
theorem dl_16 : decode code 16 = .ok (.iconst 0, 1) := by decide +kernel
theorem dl_17 : decode code 17 = .ok (.istore_n 3, 1) := by decide +kernel
theorem clk_7 : clk 9 7 = some 7 := by decide +kernel
theorem clk_10 : clk 9 10 = some 8 := by decide +kernel
theorem lnk_9 : Jvm.Cond.methodLink (cn 9) 9 (nm 25) ∈ lw_tbl := lw_mem (List.all_eq_true.mp lkm_ok (9, 9, 25, 70) (by decide +kernel))
theorem lnk_12 : Jvm.Cond.methodLink (cn 9) 12 (nm 47) ∈ lw_tbl := lw_mem (List.all_eq_true.mp lkm_ok (9, 12, 47, 748) (by decide +kernel))
/-- the law's loop, over the machine -/
theorem law_loop {p : Program} {e : Env} {s : State} {m : MethodId} {below : List Frame} {meth : Method} {c : Code} (l : Launch) {b L : Nat} {xs : Nat → Int32} (hL : L ≤ 2048) (C0 : lw_At p s m meth c b L xs) {D : va_G} {cA : Nat → ClassId} (hK : va_K D vwCl (tyA cA) s) (hNW : NW s) {H : Heap} {locs : List Loc} {ls : Array Slot} (hl : lv_has ls 4 [(3, .int 0), (2, .ref (s.heap.size + 134)), (1, .ref (s.heap.size + 0)), (0, .ref b)]) (hP : va_P D vwCl (wsO cA s.heap.size (sg0 L xs)) H) (hS : va_S (fun q => s.heap.size ≤ q) s.heap H locs) : W p l e room_1 s m #[Value.ref b] below meth c H locs 163 13717 (lw_Z below #[Value.ref b] s) (F0 m 18 ls []) := by
  obtain ⟨hx, hb, hr, hml, hown, hts, hX, hbl, hlocks, hgv⟩ := id C0
  have hU : ∀ w ∈ UW, w.before #[Value.ref b] s = true := fun w hw => hts w (List.mem_filter.mp hw).1
  obtain ⟨n, hlp⟩ : G 9 (fun v _ => v = vi 1) 140 10 [vr 99 0, vr 0 0, vr 62 0, vi 0] [] (sg0 L xs) := law_G agr_all hL 513 0 (sg0 L xs) Inv_0 (by omega) (by omega) sg_L (fun j => sg_ir hL 99 0 j)
  have hF : FX p s m #[Value.ref b] c D cA s.heap.size b L xs True 140 := ⟨hx, hb, hml, hown, hU, hK, hNW, fun _ => ⟨hX, hbl, hbl⟩⟩
  have hC := lp_sound (p := p) (l := l) (e₀ := e) (R := room_1) (s := s) (m := m) (args := #[Value.ref b]) (below := below) (meth := meth) (c := c) (cells := 163) (slots := 13717) (Q := lw_Z below #[Value.ref b] s) (D := D) (cA := cA) (N0 := s.heap.size) (b := b) (L := L) (y := 140) (d := 9) (xs := xs) (sc := True) hF (by omega) (by decide) (Cal := Rn 9) (ret := fun v _ => v = vi 1) (g99 := sg0 L xs 99) (by show 9 + 1 ≤ 10; omega) (by show 32 * (9 + 1) ≤ 382; omega) (by show 163 ≤ 600000; omega) (by show 13717 ≤ 7302249; omega) (fun y' as σ v σ' h1 h2 h3 => Rn_met 9 y' as σ v σ' h1 h2 h3) ?_ n 10 _ [] (sg0 L xs) hlp ?_ (fun v hv => by cases hv) ⟨sg_ir hL, fun _ => ⟨sg_L, fun j hj => sg_x hj⟩⟩ rfl
  · refine hC ls H locs ⟨rfl, _, hl, fun i v hi hu => ?_⟩ hP hS
    match i, hi with
    | 0, hi => cases hi; exact List.mem_cons_of_mem _ (List.mem_cons_of_mem _ (List.mem_cons_of_mem _ (List.mem_cons_self)))
    | 1, hi => cases hi; exact List.mem_cons_of_mem _ (List.mem_cons_of_mem _ (List.mem_cons_self))
    | 2, hi => cases hi; exact List.mem_cons_of_mem _ (List.mem_cons_self)
    | 3, hi => cases hi; exact List.mem_cons_self
    | i + 4, hi => simp [nth] at hi
  · intro v σ' hv _ _ _ pc0 ls1 H1 locs1 _ hS1 hd _ _
    subst hv
    refine W.widen (k := 600000) (n := 7302249) (by omega) (by omega) ?_
    exact W.forget (locs := []) (L := locs1) (fun q hq => hS1.2.2 q hq) (lw_ret hx hb hr hlocks hd)
  · intro v hv
    simp only [List.mem_cons, List.not_mem_nil, or_false] at hv
    rcases hv with rfl | rfl | rfl | rfl
    · exact Or.inl ⟨rfl, rfl, trivial⟩
    · exact Or.inr ⟨by decide, show (0 : Int) ≤ 0 ∧ (0 : Int) < (cnt _ : Int) from ⟨by decide, by decide⟩⟩
    · exact Or.inr ⟨by decide, show (0 : Int) ≤ 0 ∧ (0 : Int) < (cnt _ : Int) from ⟨by decide, by decide⟩⟩
    · exact irI (by decide) (by decide)
set_option maxHeartbeats 4000000 in
theorem law_walk {p : Program} {e : Env} {s : State} {m : MethodId} {below : List Frame} {meth : Method} {c : Code} (l : Launch) {b L : Nat} {xs : Nat → Int32} (hL : L ≤ 2048) (C0 : lw_At p s m meth c b L xs) {h2 h4 : PH} (e1 : P1 8 25 [.inr (some 0)] [(.inl (7, blankF 7) : PC)] = some h2) (e2 : P1 8 47 [.inr (some 134)] (h2 ++ [(.inl (8, blankF 8) : PC)]) = some h4) (n4 : h4.length = 163) (z4 : szs h4 = 13717) (n2 : h2.length = 134) (hw : ∀ (D : va_G) (cA : Nat → ClassId) (N0 : Nat) (H : Heap), va_P D vwCl (ws1 cA N0 h4) H → va_P D vwCl (wsO cA N0 (sg0 L xs)) H) : W p l e room_1 s m #[Value.ref b] below meth c s.heap [] 0 0 (lw_Z below #[Value.ref b] s) (entryFrame m ([Value.ref b] : List Value).toArray 4) := by
  obtain ⟨hx, hb, hr, hml, hown, hts, hX, hbl, hlocks, hgv⟩ := id C0
  have hU : ∀ w ∈ UW, w.before #[Value.ref b] s = true := fun w hw => hts w (List.mem_filter.mp hw).1
  obtain ⟨D, cA, hK, hNW, hAO⟩ := K_start hts
  have hF : FL p s m #[Value.ref b] c D cA s.heap.size := ⟨hx, hb, hml, hown, hU, hK, hNW, hAO, Nat.le_refl _⟩
  have mo1 := P1_mono _ _ _ _ _ e1
  have mo2 := P1_mono _ _ _ _ _ e2
  have ma := mo2.app
  have q1 := mo1.1; have q2 := mo1.2; have q3 := mo2.1; have q4 := mo2.2; have q5 := ma.1; have q6 := ma.2
  have hl := lv_entry ([.ref b]) (n := 4) (Nat.le_of_ble_eq_true rfl)
  rw [lg_entry_eq]
  generalize (lg_sl ([.ref b]) ++ List.replicate (4 - (lg_sl ([.ref b])).length) Slot.unset).toArray = ls at hl ⊢
  have hl : lv_has ls 4 [(0, .ref b)] := hl
  have hP0 : va_P D vwCl (ws1 cA s.heap.size []) s.heap := fun k q h => by simp [ws1] at h
  refine law_new (h := []) hF clk_7 hP0 rfl va_S.rf dl_0 (by decide) (Nat.le_trans q2 (by omega)) (fun H1 hP1 hz1 hS1 => ?_)
  refine lv_dup hx hb dl_3 rfl ?_
  refine law_ctor hF e1 rfl lnk_9 hl.1 hP1 hz1 hS1 dl_4 (by omega) (by omega) (show 1 + 0 ≤ 8 by omega) (fun H2 locs2 hP2 hz2 hS2 => ?_)
  refine lv_astore_n (lv' := [(1, .ref (s.heap.size + 0)), (0, .ref b)]) hx hb dl_7 rfl hl (by decide) rfl (fun ls hl => ?_)
  refine law_new (h := h2) hF clk_10 hP2 hz2 hS2 dl_8 (by omega) (by omega) (fun H3 hP3 hz3 hS3 => ?_)
  rw [n2]
  refine lv_dup hx hb dl_11 rfl ?_
  have hn3 : (h2 ++ [(.inl (8, blankF 8) : PC)]).length = 134 + 1 := by rw [List.length_append, n2]; rfl
  rw [← hn3]
  refine law_ctor hF e2 rfl lnk_12 hl.1 hP3 hz3 hS3 dl_12 (by omega) (by omega) (show 1 + 0 ≤ 8 by omega) (fun H4 locs4 hP4 hz4 hS4 => ?_)
  refine lv_astore_n (lv' := [(2, .ref (s.heap.size + 134)), (1, .ref (s.heap.size + 0)), (0, .ref b)]) hx hb dl_15 rfl hl (by decide) rfl (fun ls hl => ?_)
  refine lv_iconst (v := 0) hx hb dl_16 (by decide) ?_
  refine lv_istore_n (lv' := [(3, .int 0), (2, .ref (s.heap.size + 134)), (1, .ref (s.heap.size + 0)), (0, .ref b)]) hx hb dl_17 rfl hl (by decide) rfl (fun ls hl => ?_)
  rw [n4, z4]
  exact law_loop l hL C0 hK hNW hl (hw D cA _ _ hP4) hS4
theorem h1_ex : ∃ h2 h4 : PH, P1 8 25 [.inr (some 0)] [(.inl (7, blankF 7) : PC)] = some h2 ∧ P1 8 47 [.inr (some 134)] (h2 ++ [(.inl (8, blankF 8) : PC)]) = some h4 ∧ h4 = h1d ∧ h2 = h1b := by
  obtain ⟨x, hx⟩ := Option.isSome_iff_exists.mp h1b_ok
  obtain ⟨y, hy⟩ := Option.isSome_iff_exists.mp h1d_ok
  have eb : x = h1b := by unfold h1b; rw [hx]; rfl
  have ed : y = h1d := by unfold h1d; rw [hy]; rfl
  refine ⟨x, y, hx, ?_, ed, eb⟩
  rw [eb]
  exact hy
