section SNX
variable {N0 L y : Nat} {sc : Prop}
theorem InR_up2 {σ : SS} {t : Nat} {i j x : Int} (h : InR σ) (hx : ir x) (ht : t ≠ 99) : InR (up σ t i j x) ∧ up σ t i j x 99 = σ 99 := by
  refine ⟨InR_up h hx, ?_⟩
  funext i'
  exact up_off (fun z => ht z.1.symm)
def EX (sc : Prop) (K : KT) (ret : AV → SS → Prop) (σ : SS) : Prop := (∃ v σ', ret v σ' ∧ okV sc v ∧ InR σ' ∧ σ' 99 = σ 99) ∨ (∃ pc la sa σ', K pc la sa σ' ∧ okL sc la ∧ okL sc sa ∧ InR σ' ∧ σ' 99 = σ 99)
theorem EX.k {K : KT} {ret : AV → SS → Prop} {σ σ' : SS} {pc : Nat} {la sa : List AV} (h : K pc la sa σ') (h1 : okL sc la) (h2 : okL sc sa) (h3 : InR σ') (h4 : σ' 99 = σ 99) : EX sc K ret σ := Or.inr ⟨pc, la, sa, σ', h, h1, h2, h3, h4⟩
theorem EX.r {K : KT} {ret : AV → SS → Prop} {σ : SS} {v : AV} (h : ret v σ) (h1 : okV sc v) (h3 : InR σ) : EX sc K ret σ := Or.inl ⟨v, σ, h, h1, h3, rfl⟩
theorem tsw_ex {x : Int} {K : Nat → Prop} : ∀ (ts : List Nat) (lo : Int), tsw x K lo ts → lo ≤ x → x < lo + ts.length → ∃ t, K t
  | [], lo, _, h1, h2 => by simp at h2; omega
  | t :: ts, lo, h, h1, h2 => by
    by_cases hx : x = lo
    · exact ⟨t, h.1 hx⟩
    · exact tsw_ex ts (lo + 1) h.2 (by omega) (by simp at h2; omega)
set_option maxHeartbeats 4000000 in
theorem stp_ex {Cal : CT} {ret : AV → SS → Prop} {K : KT} {ins : AI} {pc : Nat} {la sa : List AV} {σ : SS} (hchk : chkI (oc y) (byt y) (bp y) pc ins = true)
  (hCal : ∀ y' as σ v σ', Cal y' as σ v σ' → okL False as → InR σ → okV False v ∧ InR σ' ∧ σ' 99 = σ 99)
  (hst : stp Cal noS ret K (bzm y) ins pc la sa σ) (hla : okL sc la) (hsa : okL sc sa) (hsi : InR σ) : EX sc K ret σ := by
  obtain ⟨J, ns, z⟩ := ins
  obtain ⟨hd, hT, hLn, hCk⟩ := chk_split hchk
  cases J <;> simp only [stp] at hst
  all_goals first | exact hst.elim | skip
  case aload_n i =>
    simp only [aLd] at hst
    split at hst
    case h_2 => exact hst.elim
    rename_i x hr
    exact EX.k hst hla (okL_cons hsa (hla _ (nth_mem _ _ _ hr))) hsi rfl
  case aload i =>
    simp only [aLd] at hst
    split at hst
    case h_2 => exact hst.elim
    rename_i x hr
    exact EX.k hst hla (okL_cons hsa (hla _ (nth_mem _ _ _ hr))) hsi rfl
  case iload_n i =>
    simp only [iLd] at hst
    split at hst
    case h_2 => exact hst.elim
    rename_i x hr
    exact EX.k hst hla (okL_cons hsa (hla _ (nth_mem _ _ _ hr))) hsi rfl
  case iload i =>
    simp only [iLd] at hst
    split at hst
    case h_2 => exact hst.elim
    rename_i x hr
    exact EX.k hst hla (okL_cons hsa (hla _ (nth_mem _ _ _ hr))) hsi rfl
  case lload_n i =>
    simp only [lLd] at hst
    split at hst
    case h_2 => exact hst.elim
    rename_i x hr
    exact EX.k hst hla (okL_cons hsa (hla _ (nth_mem _ _ _ hr))) hsi rfl
  case lload i =>
    simp only [lLd] at hst
    split at hst
    case h_2 => exact hst.elim
    rename_i x hr
    exact EX.k hst hla (okL_cons hsa (hla _ (nth_mem _ _ _ hr))) hsi rfl
  case istore_n i =>
    simp only [iSt] at hst
    split at hst
    case h_2 => exact hst.elim
    rename_i x st0
    exact EX.k (bif_t hst).2 (okL_stl hla (okL_hd hsa)) (okL_tl hsa) hsi rfl
  case istore i =>
    simp only [iSt] at hst
    split at hst
    case h_2 => exact hst.elim
    rename_i x st0
    exact EX.k (bif_t hst).2 (okL_stl hla (okL_hd hsa)) (okL_tl hsa) hsi rfl
  case astore_n i =>
    simp only [aSt] at hst
    split at hst
    case h_2 => exact hst.elim
    rename_i x st0
    exact EX.k (bif_t hst).2 (okL_stl hla (okL_hd hsa)) (okL_tl hsa) hsi rfl
  case astore i =>
    simp only [aSt] at hst
    split at hst
    case h_2 => exact hst.elim
    rename_i x st0
    exact EX.k (bif_t hst).2 (okL_stl hla (okL_hd hsa)) (okL_tl hsa) hsi rfl
  case lstore_n i =>
    simp only [lSt] at hst
    split at hst
    case h_2 => exact hst.elim
    rename_i x st0
    exact EX.k (bif_t hst).2 (okL_stl2 (okL_stl hla (okL_hd hsa))) (okL_tl hsa) hsi rfl
  case lstore i =>
    simp only [lSt] at hst
    split at hst
    case h_2 => exact hst.elim
    rename_i x st0
    exact EX.k (bif_t hst).2 (okL_stl2 (okL_stl hla (okL_hd hsa))) (okL_tl hsa) hsi rfl
  case iconst n =>
    have ok : ir n := by have h : _ ∧ _ := of_decide_eq_true hCk; unfold ir; omega
    exact EX.k hst hla (okL_cons hsa ok) hsi rfl
  case bipush n =>
    have ok : ir n := by have h : _ ∧ _ := of_decide_eq_true hCk; unfold ir; omega
    exact EX.k hst hla (okL_cons hsa ok) hsi rfl
  case sipush n =>
    have ok : ir n := by have h : _ ∧ _ := of_decide_eq_true hCk; unfold ir; omega
    exact EX.k hst hla (okL_cons hsa ok) hsi rfl
  case ldc n =>
    exact EX.k hst hla (okL_cons hsa (lkc_at hCk).2) hsi rfl
  case ldc2_w n =>
    exact EX.k hst hla (okL_cons (v := vl z) hsa (il_ir (lkl_at hCk).2)) hsi rfl
  case lconst n =>
    have ez : z = ((n : Nat) : Int) := of_decide_eq_true hCk
    subst ez
    have ok : il ((n : Nat) : Int) := by have := n.2; unfold il; omega
    exact EX.k hst hla (okL_cons (v := vl _) hsa ok) hsi rfl
  case aconst_null  =>
    exact EX.k hst hla (okL_cons (v := vz) hsa trivial) hsi rfl
  case iadd  =>
    split at hst
    case h_2 => exact hst.elim
    rename_i y0 x0 st0
    have hy0 : ir y0 := okL_hd hsa
    have hx0 : ir x0 := okL_hd (okL_tl hsa)
    exact EX.k hst.2 hla (okL_cons (okL_tl (okL_tl hsa)) hst.1) hsi rfl
  case isub  =>
    split at hst
    case h_2 => exact hst.elim
    rename_i y0 x0 st0
    have hy0 : ir y0 := okL_hd hsa
    have hx0 : ir x0 := okL_hd (okL_tl hsa)
    exact EX.k hst.2 hla (okL_cons (okL_tl (okL_tl hsa)) hst.1) hsi rfl
  case imul  =>
    split at hst
    case h_2 => exact hst.elim
    rename_i y0 x0 st0
    have hy0 : ir y0 := okL_hd hsa
    have hx0 : ir x0 := okL_hd (okL_tl hsa)
    exact EX.k hst.2 hla (okL_cons (okL_tl (okL_tl hsa)) hst.1) hsi rfl
  case idiv  =>
    split at hst
    case h_2 => exact hst.elim
    rename_i y0 x0 st0
    have hy0 : ir y0 := okL_hd hsa
    have hx0 : ir x0 := okL_hd (okL_tl hsa)
    exact EX.k hst.2 hla (okL_cons (okL_tl (okL_tl hsa)) (ir_div hx0 hst.1)) hsi rfl
  case irem  =>
    split at hst
    case h_2 => exact hst.elim
    rename_i y0 x0 st0
    have hy0 : ir y0 := okL_hd hsa
    have hx0 : ir x0 := okL_hd (okL_tl hsa)
    exact EX.k hst.2 hla (okL_cons (okL_tl (okL_tl hsa)) (ir_mod hy0 hst.1)) hsi rfl
  case ior  =>
    split at hst
    case h_2 => exact hst.elim
    rename_i y0 x0 st0
    have hy0 : ir y0 := okL_hd hsa
    have hx0 : ir x0 := okL_hd (okL_tl hsa)
    exact EX.k hst.2 hla (okL_cons (okL_tl (okL_tl hsa)) (ir_or hx0 hy0)) hsi rfl
  case iand  =>
    split at hst
    case h_3 => exact hst.elim
    case h_1 q0 y0 x0 st0 =>
      exact EX.k hst.2 hla (okL_cons (okL_tl (okL_tl hsa)) (show ir (x0 % 32) by unfold ir; omega)) hsi rfl
    case h_2 =>
      exact EX.k hst.2 hla (okL_cons (okL_tl (okL_tl hsa)) (ir_and (show ir _ from okL_hd (okL_tl hsa)))) hsi rfl
  case ladd  =>
    split at hst
    case h_2 => exact hst.elim
    rename_i y0 x0 st0
    have hx0 : il x0 ∨ True := Or.inr trivial
    exact EX.k hst.2 hla (okL_cons (v := vl _) (okL_tl (okL_tl hsa)) hst.1) hsi rfl
  case lsub  =>
    split at hst
    case h_2 => exact hst.elim
    rename_i y0 x0 st0
    have hx0 : il x0 ∨ True := Or.inr trivial
    exact EX.k hst.2 hla (okL_cons (v := vl _) (okL_tl (okL_tl hsa)) hst.1) hsi rfl
  case lmul  =>
    split at hst
    case h_2 => exact hst.elim
    rename_i y0 x0 st0
    have hx0 : il x0 ∨ True := Or.inr trivial
    exact EX.k hst.2 hla (okL_cons (v := vl _) (okL_tl (okL_tl hsa)) hst.1) hsi rfl
  case ldiv  =>
    split at hst
    case h_2 => exact hst.elim
    rename_i y0 x0 st0
    have hx0 : il x0 ∨ True := Or.inr trivial
    exact EX.k hst.2 hla (okL_cons (v := vl _) (okL_tl (okL_tl hsa)) (il_div (show il x0 from okL_hd (v := vl x0) (okL_tl hsa)) hst.1)) hsi rfl
  case lrem  =>
    split at hst
    case h_2 => exact hst.elim
    rename_i y0 x0 st0
    have hx0 : il x0 ∨ True := Or.inr trivial
    exact EX.k hst.2 hla (okL_cons (v := vl _) (okL_tl (okL_tl hsa)) (il_mod (show il y0 from okL_hd (v := vl y0) hsa) hst.1)) hsi rfl
  case land  =>
    split at hst
    case h_2 => exact hst.elim
    rename_i y0 x0 st0
    have hx0 : il x0 ∨ True := Or.inr trivial
    exact EX.k hst.2 hla (okL_cons (v := vl _) (okL_tl (okL_tl hsa)) (show il (x0 % 2) by unfold il; omega)) hsi rfl
  case lshl  =>
    split at hst
    case h_2 => exact hst.elim
    rename_i y0 x0 st0
    have hx0 : il x0 ∨ True := Or.inr trivial
    exact EX.k hst.2 hla (okL_cons (v := vl _) (okL_tl (okL_tl hsa)) hst.1.2.2) hsi rfl
  case i2l  =>
    split at hst
    case h_2 => exact hst.elim
    rename_i x0 st0
    exact EX.k hst hla (okL_cons (v := vl _) (okL_tl hsa) (il_ir (show ir x0 from okL_hd (v := .inl x0) hsa))) hsi rfl
  case l2i  =>
    split at hst
    case h_2 => exact hst.elim
    rename_i x0 st0
    exact EX.k hst.2 hla (okL_cons (okL_tl hsa) hst.1) hsi rfl
  case lcmp  =>
    split at hst
    case h_2 => exact hst.elim
    rename_i y0 x0 st0
    exact EX.k hst hla (okL_cons (okL_tl (okL_tl hsa)) (ir_lc x0 y0)) hsi rfl
  case dup  =>
    split at hst
    case h_3 => exact hst.elim
    all_goals exact EX.k hst hla (okL_cons hsa (okL_hd hsa)) hsi rfl
  case dup2  =>
    split at hst
    case h_2 => exact hst.elim
    exact EX.k hst hla (okL_cons (okL_cons hsa (okL_hd (okL_tl hsa))) (okL_hd hsa)) hsi rfl
  case iinc i n =>
    split at hst
    case h_2 => exact hst.elim
    rename_i x0 hr
    exact EX.k hst.2 (okL_stl hla hst.1) hsa hsi rfl
  case if_icmp cc off =>
    split at hst
    case h_2 => exact hst.elim
    rename_i t y0 x0 st0
    have okt := okL_tl (okL_tl hsa)
    cases cc <;> simp only [cnd] at hst
    · by_cases q : x0 = y0
      · exact EX.k (hst.1 q) hla okt hsi rfl
      · exact EX.k (hst.2 q) hla okt hsi rfl
    · by_cases q : x0 = y0
      · exact EX.k (hst.2 q) hla okt hsi rfl
      · exact EX.k (hst.1 q) hla okt hsi rfl
    · by_cases q : x0 < y0
      · exact EX.k (hst.1 q) hla okt hsi rfl
      · exact EX.k (hst.2 (by omega)) hla okt hsi rfl
    · by_cases q : y0 ≤ x0
      · exact EX.k (hst.1 q) hla okt hsi rfl
      · exact EX.k (hst.2 (by omega)) hla okt hsi rfl
    · by_cases q : y0 < x0
      · exact EX.k (hst.1 q) hla okt hsi rfl
      · exact EX.k (hst.2 (by omega)) hla okt hsi rfl
    · by_cases q : x0 ≤ y0
      · exact EX.k (hst.1 q) hla okt hsi rfl
      · exact EX.k (hst.2 (by omega)) hla okt hsi rfl
  case ifCond cc off =>
    split at hst
    case h_2 => exact hst.elim
    rename_i t x0 st0
    have okt := okL_tl hsa
    cases cc <;> simp only [cnd] at hst
    · by_cases q : x0 = 0
      · exact EX.k (hst.1 q) hla okt hsi rfl
      · exact EX.k (hst.2 q) hla okt hsi rfl
    · by_cases q : x0 = 0
      · exact EX.k (hst.2 q) hla okt hsi rfl
      · exact EX.k (hst.1 q) hla okt hsi rfl
    · by_cases q : x0 < 0
      · exact EX.k (hst.1 q) hla okt hsi rfl
      · exact EX.k (hst.2 (by omega)) hla okt hsi rfl
    · by_cases q : 0 ≤ x0
      · exact EX.k (hst.1 q) hla okt hsi rfl
      · exact EX.k (hst.2 (by omega)) hla okt hsi rfl
    · by_cases q : 0 < x0
      · exact EX.k (hst.1 q) hla okt hsi rfl
      · exact EX.k (hst.2 (by omega)) hla okt hsi rfl
    · by_cases q : x0 ≤ 0
      · exact EX.k (hst.1 q) hla okt hsi rfl
      · exact EX.k (hst.2 (by omega)) hla okt hsi rfl
  case ifnull off =>
    split at hst
    case h_3 => exact hst.elim
    all_goals exact EX.k hst hla (okL_tl hsa) hsi rfl
  case ifnonnull off =>
    split at hst
    case h_3 => exact hst.elim
    all_goals exact EX.k hst hla (okL_tl hsa) hsi rfl
  case goto off =>
    split at hst
    case h_2 => exact hst.elim
    exact EX.k hst hla hsa hsi rfl
  case tableswitch dflt lo hi offs =>
    rcases ns with _ | ⟨t, ts⟩
    · exact False.elim hst
    rcases sa with _ | ⟨v0, st0⟩
    · exact False.elim hst
    rcases v0 with x0 | v0
    case inr => exact False.elim hst
    have hT : (tgt (bp y) pc dflt t && tgs (bp y) pc offs.toList ts && decide ((offs.toList.length : Int) = hi - lo + 1)) = true := hT
    simp only [Bool.and_eq_true, decide_eq_true_eq] at hT
    by_cases h : x0 < lo ∨ hi < x0
    · exact EX.k (hst.1 h) hla (okL_tl hsa) hsi rfl
    · have g1 := (tgs_at _ _ hT.1.2).1
      obtain ⟨t1, h1⟩ := tsw_ex _ _ hst.2 (by omega) (by omega)
      exact EX.k h1 hla (okL_tl hsa) hsi rfl
  case lookupswitch dflt ps =>
    rcases ns with _ | ⟨t, ts⟩
    · exact False.elim hst
    rcases sa with _ | ⟨v0, st0⟩
    · exact False.elim hst
    rcases v0 with x0 | v0
    case inr => exact False.elim hst
    have hT : (tgt (bp y) pc dflt t && tgs (bp y) pc (ps.toList.map (fun q => q.2)) ts && (ps.toList.zip (ps.toList.drop 1)).all (fun (a, next) => a.1 < next.1)) = true := hT
    simp only [Bool.and_eq_true] at hT
    obtain ⟨o1, t1, k1, k2, k3⟩ := lsw_at (of_decide_eq_true hT.1.1) _ _ hT.1.2 hst.1 hst.2
    exact EX.k k3 hla (okL_tl hsa) hsi rfl
  case getfield n =>
    split at hst
    case h_2 => exact hst.elim
    rename_i c0 k0 q0 t i st0
    obtain ⟨hc, hst2⟩ := bif_t hst
    clear hst
    have hc := beq_t hc
    obtain ⟨g0, rfl⟩ := lkf_get hCk
    obtain ⟨g1, g2, g3, g4, g5, g6, g7⟩ := lkf_use g0
    subst hc
    have ht : t ≠ 99 := fun z => by rw [z, cls_99] at g3; omega
    have hv := ok_vd (okL_hd hsa) ht
    have hlt := vd_lt hv
    obtain ⟨r1, r2⟩ := rf_kind (by omega) g3 g2
    split at hst2
    · have hne : rf t k0 ≠ 0 := fun z => by
        have := r1.mp z
        simp only [tyq, Bool.and_eq_true, Bool.not_eq_true'] at g5
        simp only [isI, Bool.or_eq_true] at this
        have e5 : (fq (cls t) k0).2.2.1 = ((kc (cls t - 1)).2.1 k0).2.2.1 := rfl
        rw [e5] at g5
        rcases this with q | q
        · rw [g5.1] at q; cases q
        · rw [g5.2] at q; cases q
      have hcnt := r2 hne
      have hv3 : vd (rf t k0) i := by unfold vd at hv ⊢; rw [hcnt]; exact hv
      have hne9 : rf t k0 ≠ 99 := by have := vd_lt hv3; omega
      exact EX.k hst2 hla (okL_cons (okL_tl hsa) (Or.inr ⟨hne9, hv3⟩)) hsi rfl
    · exact EX.k hst2 hla (okL_cons (okL_tl hsa) (hsi _ _ _)) hsi rfl
  case putfield n =>
    split at hst
    case h_2 => exact hst.elim
    rename_i c0 k0 q0 x0 t i st0
    obtain ⟨hc, hst2⟩ := bif_t hst
    clear hst
    have hc := beq_t hc
    obtain ⟨g0, rfl⟩ := lkf_put hCk
    obtain ⟨g1, g2, g3, g4, g5, g6, g7⟩ := lkf_use g0
    have hx0 : ir x0 := okL_hd hsa
    have ht : t ≠ 99 := fun z => by rw [← hc, z, cls_99] at g3; omega
    have hsu := InR_up2 (t := t) (i := i) (j := (k0 : Int)) hsi hx0 ht
    split at hst2
    · exact EX.k hst2 hla (okL_tl (okL_tl hsa)) hsu.1 hsu.2
    · exact EX.k hst2.2 hla (okL_tl (okL_tl hsa)) hsu.1 hsu.2
    · exact hst2.elim
  case iaload  =>
    split at hst
    case h_2 => exact hst.elim
    exact EX.k (bif_t hst).2.2 hla (okL_cons (okL_tl (okL_tl hsa)) (hsi _ _ _)) hsi rfl
  case baload  =>
    split at hst
    case h_2 => exact hst.elim
    exact EX.k (bif_t hst).2.2 hla (okL_cons (okL_tl (okL_tl hsa)) (hsi _ _ _)) hsi rfl
  case iastore  =>
    split at hst
    case h_2 => exact hst.elim
    rename_i x0 j0 t i st0
    obtain ⟨hc, hst2⟩ := bif_t hst
    rw [Bool.and_eq_true] at hc
    have ht : t ≠ 99 := fun z => by rw [z] at hc; exact absurd hc.2 (by decide)
    have hsu := InR_up2 (t := t) (i := i) (j := j0) hsi (show ir x0 from okL_hd (v := .inl x0) hsa) ht
    exact EX.k hst2.2 hla (okL_tl (okL_tl (okL_tl hsa))) hsu.1 hsu.2
  case bastore  =>
    split at hst
    case h_2 => exact hst.elim
    rename_i x0 j0 t i st0
    obtain ⟨hc, hst2⟩ := bif_t hst
    have hc := beq_t hc
    have ht : t ≠ 99 := fun z => by rw [z, ak_99] at hc; omega
    have hsu := InR_up2 (t := t) (i := i) (j := j0) hsi (show ir x0 from okL_hd (v := .inl x0) hsa) ht
    exact EX.k hst2.2 hla (okL_tl (okL_tl (okL_tl hsa))) hsu.1 hsu.2
  case aaload  =>
    split at hst
    case h_2 => exact hst.elim
    rename_i j0 t i st0
    obtain ⟨hc, hst2⟩ := bif_t hst
    clear hst
    have hc := Nat.le_of_ble_eq_true hc
    obtain ⟨h1, h2⟩ := hst2
    have ht : t ≠ 99 := fun z => by rw [z, ak_99] at hc; omega
    have hv := ok_vd (okL_hd (okL_tl hsa)) ht
    have hlt := vd_lt hv
    rw [aln_ne ht] at h1
    have hcn : (cnt (el t) : Int) = ndI alL t := by
      have h := tb (t := t) (by omega)
      simp only [tbOk, Bool.and_eq_true, Bool.or_eq_true, decide_eq_true_eq] at h
      rcases h.1.1.1.1.1.2 with q | q
      · omega
      · exact q
    have hv3 : vd (el t) j0 := ⟨h1.1, by rw [hcn]; exact h1.2⟩
    have hne9 : el t ≠ 99 := by have := vd_lt hv3; omega
    exact EX.k h2 hla (okL_cons (okL_tl (okL_tl hsa)) (Or.inr ⟨hne9, hv3⟩)) hsi rfl
  case arraylength  =>
    split at hst
    case h_2 => exact hst.elim
    rename_i t i st0
    have hc : ¬ ak t = 0 := fun z => by rw [z] at hst; exact hst
    have hst : K (pc + 1) la (.inl (aln σ t) :: st0) σ := by
      have : Nat.beq (ak t) 0 = false := by
        cases h : Nat.beq (ak t) 0
        · rfl
        · exact absurd (beq_t h) hc
      rw [this] at hst; exact hst
    refine EX.k hst hla (okL_cons (okL_tl hsa) (show ir (aln σ t) from ?_)) hsi rfl
    by_cases ht : t = 99
    · subst ht; exact hsi _ _ _
    · have hal := al_pos (t := t) (vd_lt (ok_vd (okL_hd hsa) ht) |> fun h => by omega)
      rw [aln_ne ht]; unfold ir; omega
  case invokevirtual n =>
    simp only [acl, noS] at hst
    split at hst
    case h_3 => exact hst.elim
    case h_2 => simp [chkK] at hCk
    rename_i y0 n0 c0 k0
    split at hst
    case h_2 => exact hst.elim
    rename_i as0 st0 hpop
    obtain ⟨hb0, hst2⟩ := bif_t hst
    clear hst
    simp only [Bool.and_eq_true] at hb0
    obtain ⟨hb0, hrc, hn9⟩ := hb0
    obtain ⟨us, u1, u2, u3⟩ := pop_at _ _ _ _ _ hpop
    rw [List.append_nil] at u3
    have hoas0 : okL sc as0 := fun w hw => hsa w (by rw [u2]; rw [u3, List.mem_reverse] at hw; exact List.mem_append_left _ hw)
    have hoas := n99_ok as0 hn9 hoas0
    have host : okL sc st0 := fun w hw => hsa w (by rw [u2]; exact List.mem_append_right _ hw)
    split at hst2
    · obtain ⟨σ', h1, h2⟩ := hst2
      obtain ⟨g1, g2, g3⟩ := hCal _ _ _ _ _ h1 hoas hsi
      exact EX.k h2 hla host g2 g3
    · obtain ⟨x, σ', h1, h2⟩ := hst2
      obtain ⟨g1, g2, g3⟩ := hCal _ _ _ _ _ h1 hoas hsi
      exact EX.k h2 hla (okL_cons host g1) g2 g3
    · obtain ⟨r, σ', h1, h2⟩ := hst2
      obtain ⟨g1, g2, g3⟩ := hCal _ _ _ _ _ h1 hoas hsi
      refine EX.k h2 hla (okL_cons host ?_) g2 g3
      rcases r with _ | ⟨t, i⟩
      · trivial
      · rcases g1 with q | q
        · exact q.2.2.elim
        · exact Or.inr q
  case invokestatic n =>
    simp only [acl, noS] at hst
    split at hst
    case h_3 => exact hst.elim
    case h_2 =>
      rename_i a0
      split at hst
      case h_2 => exact hst.elim
      rename_i y0 x0 st0
      have hy0 : ir y0 := okL_hd hsa
      have hx0 : ir x0 := okL_hd (okL_tl hsa)
      exact EX.k (bif_t hst).2 hla (okL_cons (okL_tl (okL_tl hsa)) (show ir (max x0 y0) by unfold ir at *; omega)) hsi rfl
    rename_i y0 n0 c0 k0
    split at hst
    case h_2 => exact hst.elim
    rename_i as0 st0 hpop
    obtain ⟨hb0, hst2⟩ := bif_t hst
    clear hst
    simp only [Bool.and_eq_true] at hb0
    obtain ⟨hb0, hrc, hn9⟩ := hb0
    obtain ⟨us, u1, u2, u3⟩ := pop_at _ _ _ _ _ hpop
    rw [List.append_nil] at u3
    have hoas0 : okL sc as0 := fun w hw => hsa w (by rw [u2]; rw [u3, List.mem_reverse] at hw; exact List.mem_append_left _ hw)
    have hoas := n99_ok as0 hn9 hoas0
    have host : okL sc st0 := fun w hw => hsa w (by rw [u2]; exact List.mem_append_right _ hw)
    split at hst2
    · obtain ⟨σ', h1, h2⟩ := hst2
      obtain ⟨g1, g2, g3⟩ := hCal _ _ _ _ _ h1 hoas hsi
      exact EX.k h2 hla host g2 g3
    · obtain ⟨x, σ', h1, h2⟩ := hst2
      obtain ⟨g1, g2, g3⟩ := hCal _ _ _ _ _ h1 hoas hsi
      exact EX.k h2 hla (okL_cons host g1) g2 g3
    · obtain ⟨r, σ', h1, h2⟩ := hst2
      obtain ⟨g1, g2, g3⟩ := hCal _ _ _ _ _ h1 hoas hsi
      refine EX.k h2 hla (okL_cons host ?_) g2 g3
      rcases r with _ | ⟨t, i⟩
      · trivial
      · rcases g1 with q | q
        · exact q.2.2.elim
        · exact Or.inr q
  case ireturn  =>
    split at hst
    case h_2 => exact hst.elim
    rename_i x0
    cases hbz : bzm y
    · rw [hbz] at hst
      exact EX.r hst (okL_hd hsa) hsi
    · rw [hbz] at hst
      exact EX.r hst.2 (okL_hd hsa) hsi
  case areturn  =>
    split at hst
    case h_2 => exact hst.elim
    exact EX.r hst (okL_hd hsa) hsi
  case return_  =>
    split at hst
    case h_2 => exact hst.elim
    exact EX.r hst (show okV sc vu from trivial) hsi
end SNX
