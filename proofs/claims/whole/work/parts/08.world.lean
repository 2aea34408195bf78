def UW : List Jvm.Cond := lw_tbl.filter goodWord
theorem uw_mem {w : Jvm.Cond} (h : w ∈ lw_tbl) (g : goodWord w = true) : w ∈ UW := List.mem_filter.mpr ⟨h, g⟩
def wsM (y : Nat) : List Jvm.Cond := Jvm.Cond.code (nm y) (byt y) (nl y) (rt y) :: UW
theorem uw_good : ∀ w ∈ UW, (w.onTables && w.keeps) = true ∨ ∃ ty, w = .arrayClass ty := fun w h => good_of_word (List.mem_filter.mp h).2
theorem up_at (σ : SS) (t : Nat) (i j v : Int) : up σ t i j v t i = fun j' => if j' = j then v else σ t i j' := by
  funext j'; simp [up]
theorem up_off {σ : SS} {t t' : Nat} {i i' j v : Int} (h : ¬ (t' = t ∧ i' = i)) : up σ t i j v t' i' = σ t' i' := by
  funext j'
  simp only [up]
  rw [if_neg (fun q => h ⟨q.1, q.2.1⟩)]
theorem vd_nat {t : Nat} {i : Int} (h : vd t i) : i.toNat < cnt t ∧ ((i.toNat : Nat) : Int) = i := by
  unfold vd at h; omega
theorem vd_lt {t : Nat} {i : Int} (h : vd t i) : t < 99 := by
  have := ce_at (tb_cell (vd_nat h).1)
  exact this.2.2
section WORLD
variable {D : va_G} {cA : Nat → ClassId} {N0 b : Nat}
theorem wsO_at {σ : SS} {t i : Nat} (h : i < cnt t) : (wsO cA N0 σ)[ad t i]? = some (N0 + ad t i, cE cA N0 σ (t, i)) := by
  simp only [wsO, List.getElem?_map, tb_cell h, Option.map_some]
theorem wsO_set {σ σ' : SS} {t i : Nat} (h : i < cnt t) (ho : ∀ (t' i' : Nat), ¬ (t' = t ∧ i' = i) → σ' t' i' = σ t' i') : (wsO cA N0 σ).set (ad t i) (N0 + ad t i, cE cA N0 σ' (t, i)) = wsO cA N0 σ' := by
  apply List.ext_getElem?
  intro k
  by_cases hk : k = ad t i
  · subst hk
    rw [wsO_at h, List.getElem?_set_self]
    simp only [wsO, List.length_map]
    exact (List.getElem?_eq_some_iff.mp (tb_cell h)).1
  · rw [List.getElem?_set_ne (Ne.symm hk)]
    simp only [wsO, List.getElem?_map]
    cases hc : cellsL[k]? with
    | none => rfl
    | some q =>
      obtain ⟨t', i'⟩ := q
      have h1 := ce_at hc
      simp only [Option.map_some, cE]
      rw [ho t' i' (fun z => hk (by rw [← h1.1, z.1, z.2]))]
theorem wsO_D (σ : SS) : va_D (fun q => N0 ≤ q) (wsO cA N0 σ) := by
  have key : ∀ (k : Nat) (q : Nat × va_E), (wsO cA N0 σ)[k]? = some q → q.1 = N0 + k := by
    intro k q hk
    simp only [wsO, List.getElem?_map] at hk
    cases hc : cellsL[k]? with
    | none => rw [hc] at hk; cases hk
    | some r =>
      rw [hc] at hk
      cases hk
      show N0 + ad r.1 r.2 = _
      rw [(ce_at hc).1]
  exact ⟨fun i j p q h1 h2 h3 => by have := key i p h1; have := key j q h2; omega, fun k q h => by have := key k q h; show N0 ≤ q.1; omega⟩
theorem cE_obj {σ : SS} {t i : Nat} (hc : 0 < cls t) (ht : t < 100) : cE cA N0 σ (t, i) = .inr (cls t - 1, (List.range (kc (cls t - 1)).2.2).map (fV N0 (σ t i) t i)) := by
  have h := tb ht
  have h0 : ak t = 0 := by
    simp only [tbOk, Bool.and_eq_true, Bool.or_eq_true, decide_eq_true_eq] at h
    rcases h.1.1.1.1.1.1.2 with q | q
    · omega
    · exact q.1.1
  simp only [cE, cF, h0]
theorem cE_int {σ : SS} {t i : Nat} (h : ak t = 1) : cE cA N0 σ (t, i) = .inl (cA 1, (ndI alL t).toNat, .inl (fun j => Int32.ofInt (σ t i j))) := by simp only [cE, cF, h]
theorem cE_bool {σ : SS} {t i : Nat} (h : ak t = 2) : cE cA N0 σ (t, i) = .inl (cA 2, (ndI alL t).toNat, .inl (fun j => Int32.ofInt (σ t i j))) := by simp only [cE, cF, h]
theorem cE_ref {σ : SS} {t i : Nat} (h : 3 ≤ ak t) (ht : t < 100) : ∃ (C : String) (k : Nat), (tyA cA)[k]? = some (cA (ak t), FieldType.object C) ∧ cE cA N0 σ (t, i) = .inl (cA (ak t), (ndI alL t).toNat, .inr (.inr (.inr (.inr (fun j => some (N0 + ad (el t) j)))))) := by
  have h5 : ak t < 5 := by
    have h := tb ht
    simp only [tbOk, Bool.and_eq_true, decide_eq_true_eq] at h
    exact h.1.1.2
  have h3 : ak t = 3 ∨ ak t = 4 := by omega
  rcases h3 with h3 | h3
  · exact ⟨"RegionStack$Body", 2, by rw [h3]; rfl, by simp only [cE, cF, h3]⟩
  · exact ⟨"RegionStack$Text", 3, by rw [h3]; rfl, by simp only [cE, cF, h3]⟩
theorem al_pos {t : Nat} (ht : t < 100) : 0 ≤ ndI alL t ∧ ndI alL t < 2147483648 := by
  have h := tb ht
  simp only [tbOk, Bool.and_eq_true, decide_eq_true_eq] at h
  exact ⟨h.1.1.1.1.2, h.1.1.1.2⟩
theorem map_set (n k : Nat) (f g : Nat → Value) (v : Value) (h1 : g k = v) (h2 : ∀ j, j ≠ k → g j = f j) : ((List.range n).map f).set k v = (List.range n).map g := by
  apply List.ext_getElem?
  intro j
  by_cases hj : j = k
  · subst hj
    by_cases hl : j < n
    · rw [List.getElem?_set_self (by simpa using hl)]
      simp [hl, h1]
    · rw [List.getElem?_eq_none (by simp; omega), List.getElem?_eq_none (by simp; omega)]
  · rw [List.getElem?_set_ne (Ne.symm hj)]
    by_cases hl : j < n
    · simp [hl, h2 j hj]
    · rw [List.getElem?_eq_none (by simp; omega), List.getElem?_eq_none (by simp; omega)]
/-- a field of an int is written -/
theorem wsO_put {σ : SS} {t k : Nat} {i x : Int} (hv : vd t i) (hc : 0 < cls t) (hk : rf t k = 0) : (wsO cA N0 σ).set (ad t i.toNat) (N0 + ad t i.toNat, .inr (cls t - 1, ((List.range (kc (cls t - 1)).2.2).map (fV N0 (σ t i) t i.toNat)).set k (.int (Int32.ofInt x)))) = wsO cA N0 (up σ t i k x) := by
  obtain ⟨hn, hi⟩ := vd_nat hv
  have ht := vd_lt hv
  rw [← wsO_set (σ := σ) (σ' := up σ t i k x) hn (fun t' i' h => up_off (fun z => h ⟨z.1, by omega⟩))]
  congr 2
  rw [cE_obj hc (by omega)]
  congr 2
  rw [hi, up_at]
  refine map_set _ _ _ _ _ ?_ ?_
  · simp only [fV, hk]; simp
  · intro j hj
    simp only [fV]
    split
    · rw [if_neg (by omega)]
    · rfl
theorem upd_fun {g : Int → Int} {j x : Int} (hj : ir j) (h0 : 0 ≤ j) : upd (fun q : Nat => Int32.ofInt (g q)) (Int32.ofInt j).toNatClampNeg (Int32.ofInt x) = fun q : Nat => Int32.ofInt (if (q : Int) = j then x else g q) := by
  funext q
  rw [oi_nat hj h0]
  simp only [upd]
  by_cases h : q = j.toNat
  · rw [if_pos h, if_pos (by omega)]
  · rw [if_neg h, if_neg (by omega)]
theorem wsO_ast {σ : SS} {t : Nat} {i j x : Int} (hv : vd t i) (ha : ak t = 1) (hj : ir j) (h0 : 0 ≤ j) : (wsO cA N0 σ).set (ad t i.toNat) (N0 + ad t i.toNat, .inl (cA 1, (ndI alL t).toNat, .inl (upd (fun q : Nat => Int32.ofInt (σ t i q)) (Int32.ofInt j).toNatClampNeg (Int32.ofInt x)))) = wsO cA N0 (up σ t i j x) := by
  obtain ⟨hn, hi⟩ := vd_nat hv
  rw [← wsO_set (σ := σ) (σ' := up σ t i j x) hn (fun t' i' h => up_off (fun z => h ⟨z.1, by omega⟩))]
  congr 2
  rw [cE_int ha, upd_fun hj h0, hi, up_at]
theorem wsO_bst {σ : SS} {t : Nat} {i j x : Int} (hv : vd t i) (ha : ak t = 2) (hj : ir j) (h0 : 0 ≤ j) : (wsO cA N0 σ).set (ad t i.toNat) (N0 + ad t i.toNat, .inl (cA 2, (ndI alL t).toNat, .inl (upd (fun q : Nat => Int32.ofInt (σ t i q)) (Int32.ofInt j).toNatClampNeg (Int32.ofInt x)))) = wsO cA N0 (up σ t i j x) := by
  obtain ⟨hn, hi⟩ := vd_nat hv
  rw [← wsO_set (σ := σ) (σ' := up σ t i j x) hn (fun t' i' h => up_off (fun z => h ⟨z.1, by omega⟩))]
  congr 2
  rw [cE_bool ha, upd_fun hj h0, hi, up_at]
end WORLD
section NUL
variable {p : Program} {l : Launch} {e : Env} {R : Room} {s : State} {m : MethodId} {args : Array Value} {below : List Frame} {meth : Method} {c : Code} {H : Heap} {locs : List Loc} {cells slots : Nat} {Q : State → Prop}
variable {cc : ByteArray} {pc : Nat} {ls : Array Slot} {rest : List Value}
theorem nu_aload_n (hexec : p.tables.exec = Jvm.exec) (hb : c.code = cc) {k : Fin 4} (hdg : decode cc pc = .ok (.aload_n k, 1)) (hl : ls[(k : Nat)]? = some (.val .null))
    (k : W p l e R s m args below meth c H locs cells slots Q (F0 m (pc + 1) ls (.null :: rest))) : W p l e R s m args below meth c H locs cells slots Q (F0 m pc ls (rest)) := by
  intro T hT X
  obtain ⟨t, a, b⟩ := k T hT X
  refine ⟨t, ?_, b⟩
  jvm_step X.here [X.here.top, hexec, hb, hdg, hl, Value.isRef]
  exact a
theorem nu_aload (hexec : p.tables.exec = Jvm.exec) (hb : c.code = cc) {i : Nat} (hdg : decode cc pc = .ok (.aload i, 2)) (hl : ls[i]? = some (.val .null))
    (k : W p l e R s m args below meth c H locs cells slots Q (F0 m (pc + 2) ls (.null :: rest))) : W p l e R s m args below meth c H locs cells slots Q (F0 m pc ls (rest)) := by
  intro T hT X
  obtain ⟨t, a, b⟩ := k T hT X
  refine ⟨t, ?_, b⟩
  jvm_step X.here [X.here.top, hexec, hb, hdg, hl, Value.isRef]
  exact a
theorem nu_astore_n (hexec : p.tables.exec = Jvm.exec) (hb : c.code = cc) {k : Fin 4} {nL : Nat} {lv : List (Nat × Value)} (hdg : decode cc pc = .ok (.astore_n k, 1)) (h : lv_has ls nL lv) (hn : (k : Nat) < nL)
    (kk : ∀ ls' : Array Slot, lv_has ls' nL (((k : Nat), Value.null) :: lv.filter (fun q => !(q.1 == (k : Nat)) && !(q.1 + 1 == (k : Nat) && q.2.category == 2))) → W p l e R s m args below meth c H locs cells slots Q (F0 m (pc + 1) ls' rest)) : W p l e R s m args below meth c H locs cells slots Q (F0 m pc ls (.null :: rest)) := by
  obtain ⟨ls', e', h'⟩ := lv_store1 (v := .null) h hn rfl
  intro T hT X
  obtain ⟨t, a, b⟩ := kk ls' h' T hT X
  refine ⟨t, ?_, b⟩
  jvm_step X.here [X.here.top, ↓top_set X.here.top, hexec, hb, hdg, e', Value.isRef]
  exact a
theorem nu_astore (hexec : p.tables.exec = Jvm.exec) (hb : c.code = cc) {i nL : Nat} {lv : List (Nat × Value)} (hdg : decode cc pc = .ok (.astore i, 2)) (h : lv_has ls nL lv) (hn : i < nL)
    (kk : ∀ ls' : Array Slot, lv_has ls' nL ((i, Value.null) :: lv.filter (fun q => !(q.1 == i) && !(q.1 + 1 == i && q.2.category == 2))) → W p l e R s m args below meth c H locs cells slots Q (F0 m (pc + 2) ls' rest)) : W p l e R s m args below meth c H locs cells slots Q (F0 m pc ls (.null :: rest)) := by
  obtain ⟨ls', e', h'⟩ := lv_store1 (v := .null) h hn rfl
  intro T hT X
  obtain ⟨t, a, b⟩ := kk ls' h' T hT X
  refine ⟨t, ?_, b⟩
  jvm_step X.here [X.here.top, ↓top_set X.here.top, hexec, hb, hdg, e', Value.isRef]
  exact a
theorem va_callg {pc : Nat} {ls : Array Slot} {rest st0 : List Value} {A0 : Nat → Prop} {H0 : Heap} {mc ms : Nat} {ov : Option Value} {B : State → Prop} (hr : va_Run p l e R s m args below meth c H locs cells slots mc ms (F0 m pc ls st0) rest (fun st o t => o = .returned ov ∧ B t ∧ va_F A0 st t) A0) (hS : va_S A0 H0 H locs)
    (kk : ∀ (t : State) (H1 : Heap) (locs1 : List Loc), t.heap = H1 → s.vm.Alike t.vm → B t → va_S A0 H0 H1 locs1 → W p l e R s m args below meth c H1 locs1 (cells + mc) (slots + ms) Q (F0 m (pc + 3) ls (ov.toList ++ rest))) : W p l e R s m args below meth c H locs cells slots Q (F0 m pc ls st0) := by
  intro T hT X
  obtain ⟨v, st₀, t, T', L, h0, X', hL, e1, e2, ⟨hv, hb, hz, hk⟩, st⟩ := hr T hT X
  cases hv
  rw [h0] at hz hk
  obtain ⟨t2, a1, b1⟩ := kk t T'.heap (locs ++ L) e1.symm (by rw [← e2]; exact X'.warmed.alike) hb 
    ⟨Nat.le_trans hS.1 (by rw [e1]; exact hz), fun q h1 h2 => by rw [e1, hk q (Nat.lt_of_lt_of_le h1 hS.1) h2]; exact hS.2.1 q h1 h2, fun q hq => by
      rcases List.mem_append.mp hq with h | h
      · exact hS.2.2 q h
      · exact hL q h⟩ T' rfl X'
  exact ⟨t2, st t2 a1, b1⟩
end NUL
