def rm1 (d mc ms : Nat) : Room := { frames := d, cells := mc, slots := ms, locals := 32 * d }
def AO (U : State) : Prop := va_AO "RegionStack$Body" U ∧ va_AO "RegionStack$Text" U
def Pc1 (D : va_G) (cA : Nat → ClassId) (N0 : Nat) (as : List PV) (h : PH) : Array Value → State → Prop := va_Pc (as.map (pvV N0)) (fun U => va_P D vwCl (ws1 cA N0 h) U.heap ∧ U.heap.size = N0 + h.length ∧ va_K D vwCl (tyA cA) U ∧ NW U ∧ AO U)
def Qc1 (D : va_G) (cA : Nat → ClassId) (N0 : Nat) (h : PH) : Array Value → State → Outcome → State → Prop := fun _ st o t => o = .returned none ∧ (va_P D vwCl (ws1 cA N0 h) t.heap ∧ t.heap.size = N0 + h.length) ∧ va_F (fun q => N0 ≤ q) st t
section N1
variable {p : Program} {l : Launch} {e₀ : Env} {R : Room} {s : State} {m : MethodId} {args : Array Value} {below : List Frame} {meth : Method} {c : Code} {H H0 : Heap} {locs : List Loc} {cells slots : Nat} {Q : State → Prop}
variable {cc : ByteArray} {pc : Nat} {ls : Array Slot} {rest : List Value} {D : va_G} {cl : List vw_C} {tys : List (ClassId × FieldType)} {ws : va_W} {A : Nat → Prop}
theorem push_P {x : Nat × va_E} {H1 : Heap} (hP : va_P D cl ws H) (o1 : ∀ q, q < H.size → H1[q]? = H[q]?) (hx : va_at D cl x H1) : va_P D cl (ws ++ [x]) H1 := by
  refine (hP.kept fun k y hy => o1 y.1 ((hP k y hy).lt)).app fun k y hy => ?_
  have hz : k < 1 := (List.getElem?_eq_some_iff.mp hy).1
  rw [show k = 0 by omega] at hy
  cases hy
  exact hx
theorem push_S {H1 : Heap} (hS : va_S A H0 H locs) (z1 : H1.size = H.size + 1) (o1 : ∀ q, q < H.size → H1[q]? = H[q]?) : va_S A H0 H1 locs := ⟨Nat.le_trans hS.1 (by omega), fun x h1 h2 => (o1 x (Nat.lt_of_lt_of_le h1 hS.1)).trans (hS.2.1 x h1 h2), hS.2.2⟩
theorem n1_new {ci index : Nat} {C : String} {T : u_T} {N : Nat} {own : String} {Ts : List Jvm.Cond} (hx : p.tables.exec = Jvm.exec) (hb : c.code = cc) (hts : ∀ w ∈ Ts, w.before args s = true) (hin : ∀ w ∈ u_ws C T N, w ∈ Ts) (ty : Nat → FieldType) (hty : ∀ k, k < N → parseFieldDescriptor (T k).2.2.1 = some (ty k)) (hown : s.vm.findClass own = some m.cls) (h1 : (Jvm.Cond.classLink own index C).before args s = true) (h2 : (Jvm.Cond.instantiable C N).before args s = true) (h3 : (Jvm.Cond.initialized C).before args s = true) (hK : va_K D cl tys s) (hP : va_P D cl ws H) (hS : va_S A H0 H locs) (hc : cl[ci]? = some (C, T, N)) {fs : List Value} (hfs : ∀ j, j < N → defaultValue (ty j) = vp_V fs j) (hce : cells + 1 ≤ R.cells) (hsl : slots + N ≤ R.slots) (hd : decode cc pc = .ok (.new index, 3))
    (kk : ∀ H1 : Heap, va_P D cl (ws ++ [(H.size, .inr (ci, fs))]) H1 → H1.size = H.size + 1 → va_S A H0 H1 locs → W p l e₀ R s m args below meth c H1 locs (cells + 1) (slots + N) Q (F0 m (pc + 3) ls (.ref H.size :: rest))) : W p l e₀ R s m args below meth c H locs cells slots Q (F0 m pc ls rest) := by
  have hKn := hK.1 ci _ hc
  refine W.newcK hx hb hown h1 h2 h3 rfl hd hce hsl hKn.2.1 rfl fun H1 kC hkC e1 z1 o1 => ?_
  exact kk H1 (push_P hP o1 ⟨_, hc, (u_born ty hts hin hKn hkC e1 hty).to hfs⟩) z1 (push_S hS z1 o1)
theorem n1_newa {atype : ArrayType} (hx : p.tables.exec = Jvm.exec) (hb : c.code = cc) {cI : ClassId} (harr : (Jvm.Cond.arrayClass (newarray.typeOf atype)).before args s = true) (hcI : s.vm.findClass ("[" ++ (newarray.typeOf atype).toString) = some cI) (hP : va_P D cl ws H) (hS : va_S A H0 H locs) {n : Int32} {N : Nat} {a0 : vp_A} (ha : ∀ cA : ClassId, vp_cell cA a0 = arrV cA N (fun _ => defaultValue (newarray.typeOf atype))) (hn : ¬ n < 0) (hN : n.toNatClampNeg = N) (hby : N * componentBytes (newarray.typeOf atype) ≤ 536870912) (hce : cells + 1 ≤ R.cells) (hsl : slots + N ≤ R.slots) (hd : decode cc pc = .ok (.newarray atype, 2))
    (kk : ∀ H1 : Heap, va_P D cl (ws ++ [(H.size, .inl (cI, a0))]) H1 → H1.size = H.size + 1 → va_S A H0 H1 locs → W p l e₀ R s m args below meth c H1 locs (cells + 1) (slots + N) Q (F0 m (pc + 2) ls (.ref H.size :: rest))) : W p l e₀ R s m args below meth c H locs cells slots Q (F0 m pc ls (.int n :: rest)) := by
  refine va_newaK hx hb harr rfl hd rfl hn hN hby hce hsl rfl fun H1 cA e1 z1 o1 _ hNm => ?_
  rw [hcI] at hNm
  cases hNm
  refine kk H1 (push_P hP o1 ?_) z1 (push_S hS z1 o1)
  show H1[H.size]? = some (vp_cell _ _)
  rw [ha]
  exact e1
theorem n1_newq (hx : p.tables.exec = Jvm.exec) (hb : c.code = cc) {own C : String} {index : Nat} {cI : ClassId} (hown : s.vm.findClass own = some m.cls) (h1 : (Jvm.Cond.classLink own index C).before args s = true) (h2 : va_AO C s) (hcI : s.vm.findClass ("[" ++ (FieldType.object C).toString) = some cI) (hP : va_P D cl ws H) (hS : va_S A H0 H locs) {n : Int32} {N : Nat} (hn : ¬ n < 0) (hN : n.toNatClampNeg = N) (hby : N * 4 ≤ 536870912) (hce : cells + 1 ≤ R.cells) (hsl : slots + N ≤ R.slots) (hd : decode cc pc = .ok (.anewarray index, 3))
    (kk : ∀ H1 : Heap, va_P D cl (ws ++ [(H.size, .inl (cI, N, .inr (.inr (.inr (.inr (fun _ => none))))))]) H1 → H1.size = H.size + 1 → va_S A H0 H1 locs → W p l e₀ R s m args below meth c H1 locs (cells + 1) (slots + N) Q (F0 m (pc + 3) ls (.ref H.size :: rest))) : W p l e₀ R s m args below meth c H locs cells slots Q (F0 m pc ls (.int n :: rest)) := by
  subst hN
  refine W.anew hx hb hown h1 (va_AO.use h2) rfl hd rfl hn hby hce hsl fun cA kA comp f1 f2 f3 f4 => ?_
  generalize hH1 : H.push ({ cls := cA, slots := Array.replicate n.toNatClampNeg .null, vm := .none } : Cell) = H1
  have z1 : H1.size = H.size + 1 := by rw [← hH1, Array.size_push]
  have e1 : H1[H.size]? = some (arrV cA n.toNatClampNeg (fun _ => .null)) := by rw [← hH1, Array.getElem?_push_size, ← arrV_new]
  have o1 : ∀ q : Nat, q < H.size → H1[q]? = H[q]? := fun q hq => by rw [← hH1, Array.getElem?_push, if_neg (Nat.ne_of_lt hq)]
  have e4 : cA = cI := by
    have := f1
    rw [hcI] at this
    exact (Option.some.inj this).symm
  subst e4
  refine kk H1 (push_P hP o1 ?_) z1 (push_S hS z1 o1)
  show H1[H.size]? = some (vp_cell _ _)
  rw [vp_cell_q]
  exact e1
theorem n1_put (hx : p.tables.exec = Jvm.exec) (hb : c.code = cc) {own ref C : String} {T : u_T} {N ci index a : Nat} {Ts : List Jvm.Cond} (hts : ∀ w ∈ Ts, w.before args s = true) (hin : ∀ w ∈ u_ws C T N, w ∈ Ts) (ty0 : Nat → FieldType) (hty : ∀ k, k < N → parseFieldDescriptor (T k).2.2.1 = some (ty0 k)) (hnm : ∀ a, a < N → ∀ b, b < N → a ≠ b → (T a).2.1 ≠ (T b).2.1) (hown : s.vm.findClass own = some m.cls) (hK : va_K D cl tys s) (hP : va_P D cl ws H) (hD : va_D A ws) (hS0 : va_S A H0 H locs) (q0 : Nat) {fs : List Value} (he : ws[q0]? = some (a, .inr (ci, fs))) (hc : cl[ci]? = some (C, T, N)) (k : Nat) (hk : k < N) (hlink : (Jvm.Cond.fieldLink own index ref (T k).2.1 (T k).2.2.1).before args s = true) (hsame : ∀ x, s.fieldFound? (T k).1 (T k).2.1 (T k).2.2.1 = some x → s.fieldFound? ref (T k).2.1 (T k).2.2.1 = some x) (hin2 : (T k).2.2.2 = true → meth.name = "<init>" ∧ (T k).1 = own) {ty : FieldType} {v : Value} (hd : parseFieldDescriptor (T k).2.2.1 = some ty) (hn : narrow ty v = v) (hfit : fits ty v = true) (hl : k < fs.length) (hdg : decode cc pc = .ok (.putfield index, 3))
    (kk : ∀ (H1 : Heap) (locs1 : List Loc), va_P D cl (ws.set q0 (a, .inr (ci, fs.set k v))) H1 → H1.size = H.size → va_S A H0 H1 locs1 → W p l e₀ R s m args below meth c H1 locs1 cells slots Q (F0 m (pc + 3) ls rest)) : W p l e₀ R s m args below meth c H locs cells slots Q (F0 m pc ls (v :: .ref a :: rest)) := by
  have hap := va_apart (own := own) hts hin ty0 hty hnm hK hc
  obtain ⟨r, h1, cell, q1, q2, q3, q4⟩ := hP q0 _ he
  cases h1.symm.trans hc
  obtain ⟨hS, hfc, kC, hkC, hkind⟩ := hK.1 ci _ hc
  obtain ⟨cf, kf, fi, f, hi, hsl⟩ := hS k hk
  have hlay := hts _ (hin _ (u_in_lay hk))
  unfold u_lay at hlay
  have hst := (u_facts hfc hkC (u_lays hts hin hk) hi).1
  have fin : ∀ H' : Heap, H'[a]? = some (cell.setSlot f.slot v) → H'.size = H.size → (∀ q, q ≠ a → H'[q]? = H[q]?) → W p l e₀ R s m args below meth c H' (locs ++ [⟨a, f.slot⟩]) cells slots Q (F0 m (pc + 3) ls rest) := by
    intro H' e1 e2 e3
    rw [hsl] at e1 ⊢
    exact kk H' _ (hP.set hD he ⟨_, hc, t_OB.to (V := updV (vp_V fs) k v) ⟨_, e1, q2, q3, t_set q4 hap hk v⟩ (fun j _ => vp_updV_set hl v j)⟩ e3) e2 (hS0.put e2 e3 (hD.2 q0 _ he))
  cases hfin : (T k).2.2.2
  · rw [if_neg (by rw [hfin]; decide)] at hlay
    have h6 := u_store hfc hkC hkind hlay hi hd hn hfit
    exact W.putK hx hb (f := f) ⟨hown, hlink, ⟨_, _, _, hsame _ hi⟩, hst⟩ (by rw [q2]; exact h6) q1 q3 (by rw [hsl]; exact k2_hasslot (q4 k hk)) rfl rfl hdg fin
  · rw [if_pos hfin] at hlay
    obtain ⟨hi2, hdecl⟩ := hin2 hfin
    have hcf : m.cls = cf := by
      obtain ⟨_, _, c', _, _, _, -, -, hf', -, -, -, hown2, -⟩ := Cond.laysFinal_spec hlay
      have e1 : c' = cf := by have := hi.symm.trans hf'; simp at this; exact this.1.symm
      rw [hdecl] at hown2
      rw [← e1]; exact Option.some.inj (hown.symm.trans hown2)
    have h6 := u_fits hfc hkC hkind (Or.inr hlay) hi hd hn hfit
    exact W.putFinK hx hb hown hlink (hsame _ hi) hst hcf hi2 (by rw [q2]; exact h6) q1 q3 (by rw [hsl]; exact k2_hasslot (q4 k hk)) rfl rfl hdg fin
theorem n1_ast (hx : p.tables.exec = Jvm.exec) (hb : c.code = cc) (hK : va_K D cl tys s) (hP : va_P D cl ws H) (hD : va_D A ws) (hS : va_S A H0 H locs) (q0 t0 qk ci : Nat) {cA : ClassId} {r : vw_C} {n v a : Nat} {vs : List Value} {f : Nat → Option Nat} (ha : ws[q0]? = some (a, .inl (cA, n, .inr (.inr (.inr (.inr f)))))) (ht : tys[t0]? = some (cA, .object r.1)) (hv : ws[qk]? = some (v, .inr (ci, vs))) (hc : cl[ci]? = some r) {i : Int32} (hin : vp_in i n) (hdg : decode cc pc = .ok (.aastore, 1))
    (kk : ∀ (H1 : Heap) (locs1 : List Loc), va_P D cl (ws.set q0 (a, .inl (cA, n, .inr (.inr (.inr (.inr (va_up f i.toNatClampNeg (some v)))))))) H1 → H1.size = H.size → va_S A H0 H1 locs1 → W p l e₀ R s m args below meth c H1 locs1 cells slots Q (F0 m (pc + 1) ls rest)) : W p l e₀ R s m args below meth c H locs cells slots Q (F0 m pc ls (.ref v :: .int i :: .ref a :: rest)) := by
  have hlt : i.toNatClampNeg < n := Nat.not_le.mp fun q => hin (Or.inr q)
  have h0 : ¬ i < 0 := fun q => hin (Or.inl q)
  obtain ⟨r', hr', cellV, g1, g2, g3, -⟩ := hP qk _ hv
  have hcls := (hK.1 ci r hc).2
  obtain ⟨kA, comp, k1, k2, k3, -⟩ := (hK.2 t0 _ ht).2
  have hcomp : comp = D.1 ci := Option.some.inj (k3.symm.trans hcls.1)
  subst hcomp
  obtain ⟨kC, hkC, -⟩ := hcls.2
  refine W.aast hx hb (hP q0 _ ha) (fun q h => by cases h) (fun h => by cases h) k1 k2 rfl hkC ⟨h0, by show _ < (arrV _ _ _).slots.size; rw [arrV_size]; exact hlt⟩ g1 (fun q h => by rw [g3] at h; cases h) (by rw [g2]; exact hkC) (by rw [g2]; exact va_assign hcls) rfl rfl hdg fun H1 e z oq => ?_
  refine kk H1 _ (hP.set hD ha ?_ oq) z (hS.put z oq (hD.2 q0 _ ha))
  show H1[a]? = some (vp_cell _ _)
  rw [e, vp_cell_q, vp_cell_q, arrV_store]
  congr 2
  funext q
  by_cases hq : q = i.toNatClampNeg
  · subst hq
    simp [updV, va_up, va_rf]
  · simp [updV, va_up, hq]
end N1
theorem clk_at {o x ci : Nat} (h : clk o x = some ci) : Jvm.Cond.classLink (cn o) x (kc ci).1 ∈ lw_tbl ∧ ci < 9 := by
  unfold clk at h
  cases hf : lkcl.find? (fun e => decide (e.1 = o) && decide (e.2.1 = x)) with
  | none => rw [hf] at h; cases h
  | some e =>
    rw [hf] at h
    cases h
    have h1 := List.find?_some hf
    have h2 := List.mem_of_find?_eq_some hf
    simp only [Bool.and_eq_true, decide_eq_true_eq] at h1
    have := List.all_eq_true.mp lkcl_ok _ h2
    simp only [Bool.and_eq_true, decide_eq_true_eq] at this
    obtain ⟨rfl, rfl⟩ := h1
    exact ⟨lw_mem this.1, this.2⟩
theorem ins_at {c : Nat} (h : c < 9) : Jvm.Cond.instantiable (kc c).1 (kc c).2.2 ∈ lw_tbl ∧ Jvm.Cond.initialized (kc c).1 ∈ lw_tbl := by
  have := List.all_eq_true.mp insL_ok c (List.mem_range.mpr h)
  simp only [Bool.and_eq_true] at this
  exact ⟨lw_mem this.1, lw_mem this.2⟩
theorem blank_V {ci k : Nat} {N0 : Nat} (hc : ci < 9) (hk : k < (kc ci).2.2) : defaultValue (ty0 ci k) = vp_V ((blankF ci).map (pvV N0)) k := by
  have hb : (List.range 9).all (fun c => (List.range (kc c).2.2).all (fun k => decide (defaultValue (ty0 c k) = if isI ((kc c).2.1 k).2.2.1 then .int 0 else .null))) = true := by decide +kernel
  have h1 := List.all_eq_true.mp hb ci (List.mem_range.mpr hc)
  have h2 := of_decide_eq_true (List.all_eq_true.mp h1 k (List.mem_range.mpr hk))
  rw [h2]
  simp only [vp_V, blankF, List.map_map, List.getD_eq_getElem?_getD, List.getElem?_map, List.getElem?_range hk, Option.map_some, Option.getD_some, Function.comp]
  split <;> rfl
theorem kA_name {cA : Nat → ClassId} {D : va_G} {s : State} (hK : va_K D vwCl (tyA cA) s) (k : Nat) (ty : FieldType) (h : (tyA cA)[k]? = some (cA (k + 1), ty)) : s.vm.findClass ("[" ++ ty.toString) = some (cA (k + 1)) := by
  have := (hK.2 k _ h).2
  cases ty with
  | object C =>
    obtain ⟨kA, comp, h1, h2, h3, h4⟩ := this
    exact h4
  | _ => exact this
