def ent (n : Nat) (as : List AV) : List AV := as ++ List.replicate (n - as.length) vu
def Rn : Nat → CT
  | 0 => fun _ _ _ _ _ => False
  | d + 1 => fun y as σ v σ' => (decide (y < 140) && (!inL.elem y) && (cat1 as && Nat.ble as.length (nl y))) = true ∧ ∃ n, lp (Rn d) (fun v1 σ1 => v1 = v ∧ σ1 = σ') (cd y) (bzm y) n 0 (ent (nl y) as) [] σ
theorem ent_ok {sc : Prop} {n : Nat} {as : List AV} (h : okL sc as) : okL sc (ent n as) := by
  intro v hv
  rcases List.mem_append.mp hv with q | q
  · exact h v q
  · rw [(List.mem_replicate.mp q).2]; trivial
theorem chk_in {y pc : Nat} {ins : AI} (hy : y < 141) (hn : y ∉ inL) (h : nth (cd y) pc = some ins) : chkI (oc y) (byt y) (bp y) pc ins = true := by
  have := chkM_at _ 0 pc ins (chk_all hy hn) h
  rw [Nat.zero_add] at this
  exact this
theorem lp_ex {sc : Prop} {y : Nat} (hy : y < 141) (hn : y ∉ inL) {Cal : CT} {ret : AV → SS → Prop} (hCal : ∀ y' as σ v σ', Cal y' as σ v σ' → okL False as → InR σ → okV False v ∧ InR σ' ∧ σ' 99 = σ 99) :
    ∀ (n pc : Nat) (la sa : List AV) (σ : SS), lp Cal ret (cd y) (bzm y) n pc la sa σ → okL sc la → okL sc sa → InR σ → ∃ v σ', ret v σ' ∧ okV sc v ∧ InR σ' ∧ σ' 99 = σ 99
  | 0, _, _, _, _, h, _, _, _ => h.elim
  | n + 1, pc, la, sa, σ, h, h1, h2, h3 => by
    simp only [lp] at h
    cases hi : nth (cd y) pc with
    | none => rw [hi] at h; exact h.elim
    | some ins =>
      rw [hi] at h
      rcases stp_ex (chk_in hy hn hi) hCal h h1 h2 h3 with q | ⟨pc', la', sa', σ', g1, g2, g3, g4, g5⟩
      · exact q
      · obtain ⟨v, σ'', k1, k2, k3, k4⟩ := lp_ex hy hn hCal n pc' la' sa' σ' g1 g2 g3 g4
        exact ⟨v, σ'', k1, k2, k3, by rw [k4, g5]⟩
theorem rn_hyp {y : Nat} {as : List AV} (h : (decide (y < 140) && (!inL.elem y) && (cat1 as && Nat.ble as.length (nl y))) = true) : y < 140 ∧ y ∉ inL ∧ cat1 as = true ∧ as.length ≤ nl y := by
  simp only [Bool.and_eq_true, decide_eq_true_eq, Bool.not_eq_true'] at h
  exact ⟨h.1.1, fun q => by have := h.1.2; rw [List.elem_eq_mem] at this; simp [q] at this, h.2.1, Nat.le_of_ble_eq_true h.2.2⟩
theorem Rn_ex : ∀ (d y : Nat) (as : List AV) (σ : SS) (v : AV) (σ' : SS), Rn d y as σ v σ' → okL False as → InR σ → okV False v ∧ InR σ' ∧ σ' 99 = σ 99
  | 0, _, _, _, _, _, h, _, _ => h.elim
  | d + 1, y, as, σ, v, σ', h, ha, hs => by
    obtain ⟨h0, n, h⟩ := h
    obtain ⟨hy, hn, -, -⟩ := rn_hyp h0
    obtain ⟨v1, σ1, ⟨rfl, rfl⟩, h2, h3, h4⟩ := lp_ex (sc := False) (by omega) hn (fun y' as σ v σ' q1 q2 q3 => Rn_ex d y' as σ v σ' q1 q2 q3) n 0 _ _ σ h (ent_ok ha) (fun v hv => by cases hv) hs
    exact ⟨h2, h3, h4⟩
theorem bp0_all : (List.range 140).all (fun y => decide (nd (bp y) 0 = 0)) = true := by decide +kernel
theorem bp0 {y : Nat} (hy : y < 140) : nd (bp y) 0 = 0 := of_decide_eq_true (List.all_eq_true.mp bp0_all y (List.mem_range.mpr hy))
section LPS
variable {p : Program} {l : Launch} {e₀ : Env} {R : Room} {s : State} {m : MethodId} {args : Array Value} {below : List Frame} {meth : Method} {c : Code} {cells slots : Nat} {Q : State → Prop}
variable {D : va_G} {cA : Nat → ClassId} {N0 b L y d : Nat} {xs : Nat → Int32} {sc : Prop}
theorem lp_sound (hF : FX p s m args c D cA N0 b L xs sc y) (hy : y < 141) (hn : y ∉ inL) {Cal : CT} {ret : AV → SS → Prop} {g99 : Int → Int → Int}
  (hfr : d + 1 ≤ R.frames) (hlo : 32 * (d + 1) ≤ R.locals) (hce : cells ≤ R.cells) (hsl : slots ≤ R.slots)
  (hCal : ∀ y' as σ v σ', Cal y' as σ v σ' → okL False as → InR σ → y' < 140 ∧ okV False v ∧ InR σ' ∧ σ' 99 = σ 99 ∧ Met l (nm y') (wsM y') (rmD d) (PcA D cA N0 b as σ) (QcA D cA N0 b v σ') 0 0 (fun q => N0 ≤ q))
  (hret : ∀ v σ', ret v σ' → okV sc v → SI sc L xs σ' → σ' 99 = g99 → ∀ (pc0 : Nat) (ls : Array Slot) (H : Heap) (locs : List Loc), va_P D vwCl (wsO cA N0 σ') H → va_S (fun q => N0 ≤ q) s.heap H locs → decode (byt y) pc0 = .ok (retI v, 1) → (bzm y = true → ∀ x, v = .inl x → x = 0 ∨ x = 1) → (∃ ins ∈ cd y, ins.1 = retI v) → W p l e₀ R s m args below meth c H locs cells slots Q (F0 m pc0 ls (rv N0 b v).toList)) :
    ∀ (n pc : Nat) (la sa : List AV) (σ : SS), lp Cal ret (cd y) (bzm y) n pc la sa σ → okL sc la → okL sc sa → SI sc L xs σ → σ 99 = g99 → CC p l e₀ R s m args below meth c cells slots Q D cA N0 b y pc la sa σ
  | 0, _, _, _, _, h, _, _, _, _ => h.elim
  | n + 1, pc, la, sa, σ, h, h1, h2, h3, h4 => by
    simp only [lp] at h
    cases hi : nth (cd y) pc with
    | none => rw [hi] at h; exact h.elim
    | some ins =>
      rw [hi] at h
      have hck := chk_in hy hn hi
      refine stp_sound hF hck hfr hlo hce hsl hCal (fun pc' la' sa' σ' g1 g2 g3 g4 g5 => lp_sound hF hy hn hfr hlo hce hsl hCal hret n pc' la' sa' σ' g1 g2 g3 g4 (by rw [g5, h4])) ?_ h h1 h2 h3
      intro v σ' k1 k2 k3 k4 pc0 ls H locs k5 k6 k7 k8 k9
      exact hret v σ' k1 k2 k3 (by rw [k4, h4]) pc0 ls H locs k5 k6 k7 k8 ⟨ins, nth_mem _ _ _ hi, k9⟩
end LPS
theorem rt_at {y : Nat} (hy : y < 140) {ins : AI} (h : ins ∈ cd y) : (match ins.1 with
  | .ireturn => (match rt y with
    | some .int => true
    | some .boolean => true
    | _ => false)
  | .areturn => (match rt y with
    | some (.object _) => true
    | _ => false)
  | .return_ => (match rt y with
    | none => true
    | _ => false)
  | .lreturn => false
  | _ => true) = true := by
  have := List.all_eq_true.mp rt_ok y (List.mem_range.mpr hy)
  exact List.all_eq_true.mp this ins h
theorem args_sl {N0 b : Nat} : ∀ (as : List AV), cat1 as = true → lg_sl (as.map (cv N0 b)) = (as.map (cv N0 b)).map Slot.val
  | [], _ => rfl
  | .inl x :: as, h => by
    have := args_sl (N0 := N0) (b := b) as h
    simp only [lg_sl, List.map_cons, List.flatMap_cons] at this ⊢
    rw [this]; simp [cv, Value.category]
  | .inr (.inl r) :: as, h => by
    have := args_sl (N0 := N0) (b := b) as h
    simp only [lg_sl, List.map_cons, List.flatMap_cons] at this ⊢
    rw [this]; cases r <;> simp [cv, Value.category]
  | .inr (.inr r) :: as, h => by simp [cat1] at h
theorem args_lv {N0 b : Nat} : ∀ (as : List AV) (k : Nat), cat1 as = true → ∀ (i : Nat) (v : AV), nth as i = some v → (k + i, cv N0 b v) ∈ lv_args k (as.map (cv N0 b))
  | [], _, _, _, _, h => by simp [nth] at h
  | a :: as, k, hc, i, v, h => by
    have h1 : (cv N0 b a).category = 1 ∧ cat1 as = true := by
      rcases a with x | r | x
      · exact ⟨rfl, hc⟩
      · cases r <;> exact ⟨rfl, hc⟩
      · simp [cat1] at hc
    simp only [List.map_cons, lv_args, h1.1]
    cases i with
    | zero =>
      simp only [nth, Option.some.injEq] at h
      subst h
      exact List.mem_cons_self
    | succ i =>
      simp only [nth] at h
      have := args_lv (N0 := N0) (b := b) as (k + 1) h1.2 i v h
      rw [show k + (i + 1) = k + 1 + i by omega]
      refine List.mem_cons_of_mem _ ?_
      simpa using this
theorem nth_rep : ∀ (n i : Nat) (v : AV), nth (List.replicate n vu) i = some v → v = vu
  | 0, _, _, h => by simp [nth] at h
  | n + 1, 0, v, h => by simp only [List.replicate, nth, Option.some.injEq] at h; exact h.symm
  | n + 1, i + 1, v, h => by simp only [List.replicate, nth] at h; exact nth_rep n i v h
theorem nth_app : ∀ (as bs : List AV) (i : Nat) (v : AV), nth (as ++ bs) i = some v → nth as i = some v ∨ ∃ j, nth bs j = some v
  | [], bs, i, v, h => Or.inr ⟨i, h⟩
  | a :: as, bs, 0, v, h => Or.inl h
  | a :: as, bs, i + 1, v, h => nth_app as bs i v h
theorem LR_ent {N0 b n : Nat} {as : List AV} (hc : cat1 as = true) (hl : as.length ≤ n) : LR N0 b n ((lg_sl (as.map (cv N0 b)) ++ List.replicate (n - (lg_sl (as.map (cv N0 b))).length) Slot.unset).toArray) (ent n as) := by
  have hs := args_sl (N0 := N0) (b := b) as hc
  have hlen : (lg_sl (as.map (cv N0 b))).length = as.length := by rw [hs]; simp
  refine ⟨by simp [ent]; omega, _, lv_entry (as.map (cv N0 b)) (by rw [hlen]; exact hl), fun i v hi hu => ?_⟩
  rcases nth_app _ _ _ _ hi with q | ⟨j, q⟩
  · have := args_lv (N0 := N0) (b := b) as 0 hc i v q
    rwa [Nat.zero_add] at this
  · have := nth_rep _ _ _ q
    rw [this] at hu; cases hu
theorem nar_bool {x : Int} (h : x = 0 ∨ x = 1) : narrow .boolean (.int (Int32.ofInt x)) = .int (Int32.ofInt x) := by rcases h with rfl | rfl <;> decide
theorem Rn_met {l : Launch} {D : va_G} {cA : Nat → ClassId} {N0 b : Nat} : ∀ (d y : Nat) (as : List AV) (σ : SS) (v : AV) (σ' : SS), Rn d y as σ v σ' → okL False as → InR σ → y < 140 ∧ okV False v ∧ InR σ' ∧ σ' 99 = σ 99 ∧ Met l (nm y) (wsM y) (rmD d) (PcA D cA N0 b as σ) (QcA D cA N0 b v σ') 0 0 (fun q => N0 ≤ q)
  | 0, _, _, _, _, _, h, _, _ => h.elim
  | d + 1, y, as, σ, v, σ', h, ha, hs => by
    obtain ⟨q1, q2, q3⟩ := Rn_ex (d + 1) y as σ v σ' h ha hs
    obtain ⟨h0, n, h⟩ := h
    obtain ⟨hy, hn, hc, hl⟩ := rn_hyp h0
    obtain ⟨p1, p2, p3, p4, p5, p6, p7, p8, p9, p10⟩ := pl_at hy
    refine ⟨hy, q1, q2, q3, ?_⟩
    refine Met.ofW (cc := byt y) (maxL := nl y) (ret := rt y) p5 rfl ?_
    intro p e s m args below meth c s₁ B hml hv
    obtain ⟨rfl, hP, hK, hN⟩ := hv
    have hts := atoms_spec (ws := wsM y) B.pre
    have hown : s.vm.findClass (nm y).cls = some m.cls := findClass_of_methodNamed B.named
    have hlocks := B.notSynchronized
    have hF : FX p s m (as.map (cv N0 b)).toArray c D cA N0 b 0 (fun _ => 0) False y := ⟨B.exec, B.bytes, hml, by rw [← p8]; exact hown, fun w hw => hts w (List.mem_cons_of_mem _ hw), hK, hN, fun z => z.elim⟩
    have hw := lp_sound (p := p) (l := l) (e₀ := e) (below := below) (meth := meth) (R := (headSpec (wsM y) (rmD (d + 1))).room) (cells := 0) (slots := 0) (Q := MQ below (QcA D cA N0 b v σ') (as.map (cv N0 b)).toArray s 0 0 (fun q => N0 ≤ q)) (d := d) (g99 := σ 99) hF (by omega) hn (Nat.le_refl _) (Nat.le_refl _) (Nat.zero_le _) (Nat.zero_le _)
      (fun y' as σ v σ' z1 z2 z3 => Rn_met d y' as σ v σ' z1 z2 z3) ?_ n 0 _ _ σ h (ent_ok ha) (fun v hv => by cases hv) ⟨hs, fun z => z.elim⟩ rfl
    · have hb0 : nd (bp y) 0 = 0 := bp0 hy
      have := hw _ s.heap [] (LR_ent hc hl) hP va_S.rf
      rw [hb0] at this
      rw [lg_entry_eq]
      exact this
    · rintro v1 σ1 ⟨rfl, rfl⟩ k1 k2 k3 pc0 ls H locs k5 k6 k7 k8 ⟨ins, k9, k10⟩
      have hrt := rt_at hy k9
      rw [k10] at hrt
      have hr := B.returns
      have hq : ∀ t : State, t.heap = H → s.WarmedH t.vm → QcA D cA N0 b v1 σ1 (as.map (cv N0 b)).toArray s (.returned (rv N0 b v1)) t := fun t ht hW => ⟨rfl, by rw [ht]; exact k5, k6.F ht⟩
      rcases v1 with x | r | x
      · simp only [retI] at hrt k7
        split at hrt
        · rename_i hz
          exact W.iret B.exec B.bytes (by rw [hr, hz]) hq k6.2.2 k7
        · rename_i hz
          exact W.zret B.exec B.bytes (by rw [hr, hz]) (nar_bool (k8 (by simp only [bzm, hz]) x rfl)) hq k6.2.2 k7
        · cases hrt
      · simp only [retI] at hrt k7
        split at hrt
        · rename_i n0 hz
          refine W.aret B.exec B.bytes (by rw [hr, hz]) (Or.inl ⟨n0, rfl⟩) ?_ hq k6.2.2 k7
          rcases r with _ | ⟨t, i⟩
          · exact Or.inl rfl
          · exact Or.inr ⟨_, rfl⟩
        · cases hrt
      · rcases x with x | x
        · simp only [retI] at hrt
          cases hrt
        · simp only [retI] at hrt k7
          split at hrt
          · rename_i hz
            exact W.vret B.exec B.bytes (by rw [hr, hz]) hq k6.2.2 k7
          · cases hrt
