section SNO
def ON (ret : AV → SS → Prop) (K : KT) (F : (AV → SS → Prop) → KT → Prop) : Prop := (∃ v σ', ret v σ' ∧ ∀ (r' : AV → SS → Prop) (K' : KT), r' v σ' → F r' K') ∨ (∃ pc la sa σ', K pc la sa σ' ∧ ∀ (r' : AV → SS → Prop) (K' : KT), K' pc la sa σ' → F r' K')
theorem ON.k {ret : AV → SS → Prop} {K : KT} {F : (AV → SS → Prop) → KT → Prop} {pc : Nat} {la sa : List AV} {σ' : SS} (h : K pc la sa σ') (g : ∀ (r' : AV → SS → Prop) (K' : KT), K' pc la sa σ' → F r' K') : ON ret K F := Or.inr ⟨pc, la, sa, σ', h, g⟩
theorem ON.r {ret : AV → SS → Prop} {K : KT} {F : (AV → SS → Prop) → KT → Prop} {v : AV} {σ' : SS} (h : ret v σ') (g : ∀ (r' : AV → SS → Prop) (K' : KT), r' v σ' → F r' K') : ON ret K F := Or.inl ⟨v, σ', h, g⟩
theorem bif_i {q : Bool} {A : Prop} (h : q = true) (a : A) : (bif q then A else False) := by rw [h]; exact a
theorem cnd_one {c : ClassFile.Cond} {x y : Int} {A B : Prop} (h : cnd c x y A B) : (A ∧ ∀ A' B' : Prop, A' → cnd c x y A' B') ∨ (B ∧ ∀ A' B' : Prop, B' → cnd c x y A' B') := by
  cases c <;> simp only [cnd] at h ⊢
  · by_cases q : x = y
    · exact Or.inl ⟨h.1 q, fun A' B' a => ⟨fun _ => a, fun z => absurd q z⟩⟩
    · exact Or.inr ⟨h.2 q, fun A' B' a => ⟨fun z => absurd z q, fun _ => a⟩⟩
  · by_cases q : x = y
    · exact Or.inr ⟨h.2 q, fun A' B' a => ⟨fun z => absurd q z, fun _ => a⟩⟩
    · exact Or.inl ⟨h.1 q, fun A' B' a => ⟨fun _ => a, fun z => absurd z q⟩⟩
  · by_cases q : x < y
    · exact Or.inl ⟨h.1 q, fun A' B' a => ⟨fun _ => a, fun z => absurd q (by omega)⟩⟩
    · exact Or.inr ⟨h.2 (by omega), fun A' B' a => ⟨fun z => absurd z q, fun _ => a⟩⟩
  · by_cases q : y ≤ x
    · exact Or.inl ⟨h.1 q, fun A' B' a => ⟨fun _ => a, fun z => absurd q (by omega)⟩⟩
    · exact Or.inr ⟨h.2 (by omega), fun A' B' a => ⟨fun z => absurd z q, fun _ => a⟩⟩
  · by_cases q : y < x
    · exact Or.inl ⟨h.1 q, fun A' B' a => ⟨fun _ => a, fun z => absurd q (by omega)⟩⟩
    · exact Or.inr ⟨h.2 (by omega), fun A' B' a => ⟨fun z => absurd z q, fun _ => a⟩⟩
  · by_cases q : x ≤ y
    · exact Or.inl ⟨h.1 q, fun A' B' a => ⟨fun _ => a, fun z => absurd q (by omega)⟩⟩
    · exact Or.inr ⟨h.2 (by omega), fun A' B' a => ⟨fun z => absurd z q, fun _ => a⟩⟩
theorem tsw_mk {x : Int} {K : Nat → Prop} : ∀ (ts : List Nat) (lo : Int), (∀ (k t : Nat), ts[k]? = some t → x = lo + k → K t) → tsw x K lo ts
  | [], _, _ => trivial
  | t :: ts, lo, h => ⟨fun q => h 0 t rfl (by simpa using q), tsw_mk ts (lo + 1) (fun k t' h1 h2 => h (k + 1) t' (by simpa using h1) (by rw [h2]; push_cast; omega))⟩
theorem srt : ∀ (l : List (Int × Int)) (a : Int × Int), ((a :: l).zip l).all (fun (a, next) => a.1 < next.1) = true → ∀ q ∈ l, a.1 < q.1
  | [], _, _, q, h => by cases h
  | b :: l, a, h, q, hq => by
    simp only [List.zip_cons_cons, List.all_cons, Bool.and_eq_true, decide_eq_true_eq] at h
    rcases List.mem_cons.mp hq with rfl | hq
    · exact h.1
    · have := srt l b h.2 q hq
      omega
theorem lsw_off {x : Int} {K : Nat → Prop} : ∀ (ps : List (Int × Int)) (ts : List Nat), (∀ q ∈ ps, x ≠ q.1) → lsw x K ps ts
  | [], _, _ => trivial
  | (k, o) :: ps, [], _ => trivial
  | (k, o) :: ps, t :: ts, h => ⟨fun q => absurd q (h (k, o) List.mem_cons_self), lsw_off ps ts (fun q hq => h q (List.mem_cons_of_mem _ hq))⟩
theorem lsw_one {x : Int} {K : Nat → Prop} : ∀ (ps : List (Int × Int)) (ts : List Nat) (A : Prop), ps.length = ts.length → (ps.zip (ps.drop 1)).all (fun (a, next) => a.1 < next.1) = true → lsN x ps A → lsw x K ps ts → (A ∧ ∀ (A' : Prop) (K' : Nat → Prop), A' → lsN x ps A' ∧ lsw x K' ps ts) ∨ (∃ t, K t ∧ ∀ (A' : Prop) (K' : Nat → Prop), K' t → lsN x ps A' ∧ lsw x K' ps ts)
  | [], ts, A, _, _, h1, _ => Or.inl ⟨h1, fun A' K' a => ⟨a, trivial⟩⟩
  | (k, o) :: ps, [], A, h, _, _, _ => by simp at h
  | (k, o) :: ps, t :: ts, A, h, hs, h1, h2 => by
    have hs' : ((k, o) :: ps |>.zip ps).all (fun (a, next) => a.1 < next.1) = true := hs
    have hd := srt ps (k, o) hs'
    by_cases hx : x = k
    · exact Or.inr ⟨t, h2.1 hx, fun A' K' a => ⟨fun z => absurd hx z, fun _ => a, lsw_off ps ts (fun q hq => by have := hd q hq; simp only at this; omega)⟩⟩
    · have hs2 : (ps.zip (ps.drop 1)).all (fun (a, next) => a.1 < next.1) = true := by
        cases ps with
        | nil => rfl
        | cons b ps =>
          simp only [List.zip_cons_cons, List.all_cons, Bool.and_eq_true] at hs'
          exact hs'.2
      rcases lsw_one ps ts A (by simpa using h) hs2 (h1 hx) h2.2 with ⟨q1, q2⟩ | ⟨t1, q1, q2⟩
      · exact Or.inl ⟨q1, fun A' K' a => ⟨fun _ => (q2 A' K' a).1, fun z => absurd z hx, (q2 A' K' a).2⟩⟩
      · exact Or.inr ⟨t1, q1, fun A' K' a => ⟨fun _ => (q2 A' K' a).1, fun z => absurd z hx, (q2 A' K' a).2⟩⟩
set_option maxHeartbeats 4000000 in
theorem stp_one {y : Nat} {Cal : CT} {S : ST} {ret : AV → SS → Prop} {K : KT} {ins : AI} {pc : Nat} {la sa : List AV} {σ : SS} {bz : Bool} (hT : chkT (bp y) pc ins = true)
  (hst : stp Cal S ret K bz ins pc la sa σ) : ON ret K (fun r' K' => stp Cal S r' K' bz ins pc la sa σ) := by
  obtain ⟨J, ns, z⟩ := ins
  cases J <;> simp only [stp] at hst
  all_goals first | exact hst.elim | skip
  case aload_n i =>
    simp only [aLd] at hst
    split at hst
    case h_2 => exact hst.elim
    rename_i x hr
    refine ON.k hst fun r' K' h => ?_
    simp only [stp, aLd, hr]
    exact h
  case aload i =>
    simp only [aLd] at hst
    split at hst
    case h_2 => exact hst.elim
    rename_i x hr
    refine ON.k hst fun r' K' h => ?_
    simp only [stp, aLd, hr]
    exact h
  case iload_n i =>
    simp only [iLd] at hst
    split at hst
    case h_2 => exact hst.elim
    rename_i x hr
    refine ON.k hst fun r' K' h => ?_
    simp only [stp, iLd, hr]
    exact h
  case iload i =>
    simp only [iLd] at hst
    split at hst
    case h_2 => exact hst.elim
    rename_i x hr
    refine ON.k hst fun r' K' h => ?_
    simp only [stp, iLd, hr]
    exact h
  case lload_n i =>
    simp only [lLd] at hst
    split at hst
    case h_2 => exact hst.elim
    rename_i x hr
    refine ON.k hst fun r' K' h => ?_
    simp only [stp, lLd, hr]
    exact h
  case lload i =>
    simp only [lLd] at hst
    split at hst
    case h_2 => exact hst.elim
    rename_i x hr
    refine ON.k hst fun r' K' h => ?_
    simp only [stp, lLd, hr]
    exact h
  case istore_n i =>
    simp only [iSt] at hst
    split at hst
    case h_2 => exact hst.elim
    obtain ⟨h0, h1⟩ := bif_t hst
    exact ON.k h1 fun r' K' h => bif_i h0 h
  case istore i =>
    simp only [iSt] at hst
    split at hst
    case h_2 => exact hst.elim
    obtain ⟨h0, h1⟩ := bif_t hst
    exact ON.k h1 fun r' K' h => bif_i h0 h
  case astore_n i =>
    simp only [aSt] at hst
    split at hst
    case h_2 => exact hst.elim
    obtain ⟨h0, h1⟩ := bif_t hst
    exact ON.k h1 fun r' K' h => bif_i h0 h
  case astore i =>
    simp only [aSt] at hst
    split at hst
    case h_2 => exact hst.elim
    obtain ⟨h0, h1⟩ := bif_t hst
    exact ON.k h1 fun r' K' h => bif_i h0 h
  case lstore_n i =>
    simp only [lSt] at hst
    split at hst
    case h_2 => exact hst.elim
    obtain ⟨h0, h1⟩ := bif_t hst
    exact ON.k h1 fun r' K' h => bif_i h0 h
  case lstore i =>
    simp only [lSt] at hst
    split at hst
    case h_2 => exact hst.elim
    obtain ⟨h0, h1⟩ := bif_t hst
    exact ON.k h1 fun r' K' h => bif_i h0 h
  case iconst n =>
    exact ON.k hst fun r' K' h => h
  case bipush n =>
    exact ON.k hst fun r' K' h => h
  case sipush n =>
    exact ON.k hst fun r' K' h => h
  case ldc n =>
    exact ON.k hst fun r' K' h => h
  case ldc2_w n =>
    exact ON.k hst fun r' K' h => h
  case lconst n =>
    exact ON.k hst fun r' K' h => h
  case aconst_null  =>
    exact ON.k hst fun r' K' h => h
  case iadd  =>
    split at hst
    case h_2 => exact hst.elim
    exact ON.k hst.2 fun r' K' h => And.intro hst.1 h
  case isub  =>
    split at hst
    case h_2 => exact hst.elim
    exact ON.k hst.2 fun r' K' h => And.intro hst.1 h
  case imul  =>
    split at hst
    case h_2 => exact hst.elim
    exact ON.k hst.2 fun r' K' h => And.intro hst.1 h
  case idiv  =>
    split at hst
    case h_2 => exact hst.elim
    exact ON.k hst.2 fun r' K' h => And.intro hst.1 h
  case irem  =>
    split at hst
    case h_2 => exact hst.elim
    exact ON.k hst.2 fun r' K' h => And.intro hst.1 h
  case ior  =>
    split at hst
    case h_2 => exact hst.elim
    exact ON.k hst.2 fun r' K' h => And.intro hst.1 h
  case ladd  =>
    split at hst
    case h_2 => exact hst.elim
    exact ON.k hst.2 fun r' K' h => And.intro hst.1 h
  case lsub  =>
    split at hst
    case h_2 => exact hst.elim
    exact ON.k hst.2 fun r' K' h => And.intro hst.1 h
  case lmul  =>
    split at hst
    case h_2 => exact hst.elim
    exact ON.k hst.2 fun r' K' h => And.intro hst.1 h
  case ldiv  =>
    split at hst
    case h_2 => exact hst.elim
    exact ON.k hst.2 fun r' K' h => And.intro hst.1 h
  case lrem  =>
    split at hst
    case h_2 => exact hst.elim
    exact ON.k hst.2 fun r' K' h => And.intro hst.1 h
  case land  =>
    split at hst
    case h_2 => exact hst.elim
    exact ON.k hst.2 fun r' K' h => And.intro hst.1 h
  case lshl  =>
    split at hst
    case h_2 => exact hst.elim
    exact ON.k hst.2 fun r' K' h => And.intro hst.1 h
  case l2i  =>
    split at hst
    case h_2 => exact hst.elim
    exact ON.k hst.2 fun r' K' h => And.intro hst.1 h
  case iand  =>
    split at hst
    case h_3 => exact hst.elim
    case h_1 => exact ON.k hst.2 fun r' K' h => And.intro hst.1 h
    case h_2 =>
      rename_i hne
      refine ON.k hst.2 fun r' K' h => ?_
      rcases ns with _ | ⟨n0, _ | ⟨n1, ns⟩⟩
      · exact And.intro hst.1 h
      · first | exact absurd rfl (hne n0) | exact And.intro hst.1 h | exact (hne _ rfl).elim
      · exact And.intro hst.1 h
  case i2l  =>
    split at hst
    case h_2 => exact hst.elim
    exact ON.k hst fun r' K' h => h
  case lcmp  =>
    split at hst
    case h_2 => exact hst.elim
    exact ON.k hst fun r' K' h => h
  case dup2  =>
    split at hst
    case h_2 => exact hst.elim
    exact ON.k hst fun r' K' h => h
  case dup  =>
    split at hst
    case h_3 => exact hst.elim
    all_goals exact ON.k hst fun r' K' h => h
  case iinc i n =>
    split at hst
    case h_2 => exact hst.elim
    rename_i x0 hr
    refine ON.k hst.2 fun r' K' h => ?_
    simp only [stp, hr]
    exact ⟨hst.1, h⟩
  case if_icmp cc off =>
    split at hst
    case h_2 => exact hst.elim
    rcases cnd_one hst with ⟨q1, q2⟩ | ⟨q1, q2⟩
    · exact ON.k q1 fun r' K' h => q2 _ _ h
    · exact ON.k q1 fun r' K' h => q2 _ _ h
  case ifCond cc off =>
    split at hst
    case h_2 => exact hst.elim
    rcases cnd_one hst with ⟨q1, q2⟩ | ⟨q1, q2⟩
    · exact ON.k q1 fun r' K' h => q2 _ _ h
    · exact ON.k q1 fun r' K' h => q2 _ _ h
  case ifnull off =>
    split at hst
    case h_3 => exact hst.elim
    all_goals exact ON.k hst fun r' K' h => h
  case ifnonnull off =>
    split at hst
    case h_3 => exact hst.elim
    all_goals exact ON.k hst fun r' K' h => h
  case goto off =>
    split at hst
    case h_2 => exact hst.elim
    exact ON.k hst fun r' K' h => h
  case tableswitch dflt lo hi offs =>
    rcases ns with _ | ⟨t, ts⟩
    · exact False.elim hst
    rcases sa with _ | ⟨v0, st0⟩
    · exact False.elim hst
    rcases v0 with x0 | v0
    case inr => exact False.elim hst
    have hT : (tgt (bp y) pc dflt t && tgs (bp y) pc offs.toList ts && decide ((offs.toList.length : Int) = hi - lo + 1)) = true := hT
    simp only [Bool.and_eq_true, decide_eq_true_eq] at hT
    have g1 := (tgs_at _ _ hT.1.2).1
    by_cases h : x0 < lo ∨ hi < x0
    · refine ON.k (hst.1 h) fun r' K' q => And.intro (fun _ => q) (tsw_mk _ _ fun k t' h1 h2 => ?_)
      have := (List.getElem?_eq_some_iff.mp h1).1
      omega
    · have e2 : (x0 - lo).toNat < ts.length := by omega
      have e3 := List.getElem?_eq_getElem e2
      refine ON.k (tsw_at _ _ hst.2 _ _ e3 (by omega)) fun r' K' q => And.intro (fun z => absurd z h) (tsw_mk _ _ fun k t' h1 h2 => ?_)
      have : k = (x0 - lo).toNat := by omega
      subst this
      rw [e3] at h1
      cases h1
      exact q
  case lookupswitch dflt ps =>
    rcases ns with _ | ⟨t, ts⟩
    · exact False.elim hst
    rcases sa with _ | ⟨v0, st0⟩
    · exact False.elim hst
    rcases v0 with x0 | v0
    case inr => exact False.elim hst
    have hT : (tgt (bp y) pc dflt t && tgs (bp y) pc (ps.toList.map (fun q => q.2)) ts && (ps.toList.zip (ps.toList.drop 1)).all (fun (a, next) => a.1 < next.1)) = true := hT
    simp only [Bool.and_eq_true] at hT
    have g1 := (tgs_at _ _ hT.1.2).1
    rw [List.length_map] at g1
    rcases lsw_one ps.toList ts _ g1 hT.2 hst.1 hst.2 with ⟨q1, q2⟩ | ⟨t1, q1, q2⟩
    · exact ON.k q1 fun r' K' h => q2 _ (fun t => K' t la st0 σ) h
    · exact ON.k q1 fun r' K' h => q2 (K' t la st0 σ) (fun t => K' t la st0 σ) h
  case getfield n =>
    split at hst
    case h_2 => exact hst.elim
    obtain ⟨hc, hst2⟩ := bif_t hst
    clear hst
    split at hst2
    · exact ON.k hst2 fun r' K' h => bif_i hc h
    · rename_i hq
      refine ON.k hst2 fun r' K' h => bif_i hc ?_
      split
      · first | exact absurd rfl hq | exact (hq rfl).elim
      · exact h
  case putfield n =>
    split at hst
    case h_2 => exact hst.elim
    obtain ⟨hc, hst2⟩ := bif_t hst
    clear hst
    split at hst2
    · exact ON.k hst2 fun r' K' h => bif_i hc h
    · exact ON.k hst2.2 fun r' K' h => bif_i hc (And.intro hst2.1 h)
    · exact hst2.elim
  case iaload  =>
    split at hst
    case h_2 => exact hst.elim
    obtain ⟨hc, hst2⟩ := bif_t hst
    exact ON.k hst2.2 fun r' K' h => bif_i hc (And.intro hst2.1 h)
  case baload  =>
    split at hst
    case h_2 => exact hst.elim
    obtain ⟨hc, hst2⟩ := bif_t hst
    exact ON.k hst2.2 fun r' K' h => bif_i hc (And.intro hst2.1 h)
  case iastore  =>
    split at hst
    case h_2 => exact hst.elim
    obtain ⟨hc, hst2⟩ := bif_t hst
    exact ON.k hst2.2 fun r' K' h => bif_i hc (And.intro hst2.1 h)
  case bastore  =>
    split at hst
    case h_2 => exact hst.elim
    obtain ⟨hc, hst2⟩ := bif_t hst
    exact ON.k hst2.2 fun r' K' h => bif_i hc (And.intro hst2.1 h)
  case aaload  =>
    split at hst
    case h_2 => exact hst.elim
    obtain ⟨hc, hst2⟩ := bif_t hst
    exact ON.k hst2.2 fun r' K' h => bif_i hc (And.intro hst2.1 h)
  case arraylength  =>
    split at hst
    case h_2 => exact hst.elim
    rename_i t i st0
    cases hq : Nat.beq (ak t) 0
    · rw [hq] at hst
      refine ON.k hst fun r' K' h => ?_
      show (bif Nat.beq (ak t) 0 then False else _)
      rw [hq]
      exact h
    · rw [hq] at hst
      exact hst.elim
  case invokevirtual n =>
    simp only [acl] at hst
    split at hst
    case h_3 => exact hst.elim
    case h_2 =>
      split at hst
      case h_2 => exact hst.elim
      obtain ⟨hc, hst2⟩ := bif_t hst
      exact ON.k hst2 fun r' K' h => bif_i hc h
    rename_i y0 n0 c0 k0
    split at hst
    case h_2 => exact hst.elim
    rename_i as0 st0 hpop
    obtain ⟨hb0, hst2⟩ := bif_t hst
    clear hst
    split at hst2
    · rename_i v σ' hS
      split at hst2
      · refine ON.k hst2 fun r' K' h => ?_
        simp only [stp, acl, hpop, hS]
        exact bif_i hb0 h
      · rename_i hk
        refine ON.k hst2 fun r' K' h => ?_
        simp only [stp, acl, hpop, hS]
        exact bif_i hb0 h
    · rename_i o v σ' hS
      obtain ⟨ho, hst2⟩ := hst2
      split at hst2
      · refine ON.k hst2 fun r' K' h => ?_
        simp only [stp, acl, hpop, hS]
        exact bif_i hb0 ⟨ho, h⟩
      · rename_i hk
        refine ON.k hst2 fun r' K' h => ?_
        simp only [stp, acl, hpop, hS]
        exact bif_i hb0 ⟨ho, h⟩
    · rename_i hS
      split at hst2
      · obtain ⟨σ', h1, h2⟩ := hst2
        refine ON.k h2 fun r' K' h => ?_
        simp only [stp, acl, hpop, hS]
        exact bif_i hb0 ⟨σ', h1, h⟩
      · obtain ⟨x, σ', h1, h2⟩ := hst2
        refine ON.k h2 fun r' K' h => ?_
        simp only [stp, acl, hpop, hS]
        exact bif_i hb0 ⟨x, σ', h1, h⟩
      · rename_i hk1 hk2
        obtain ⟨r, σ', h1, h2⟩ := hst2
        refine ON.k h2 fun r' K' h => ?_
        simp only [stp, acl, hpop, hS]
        exact bif_i hb0 ⟨r, σ', h1, h⟩
  case invokestatic n =>
    simp only [acl] at hst
    split at hst
    case h_3 => exact hst.elim
    case h_2 =>
      split at hst
      case h_2 => exact hst.elim
      obtain ⟨hc, hst2⟩ := bif_t hst
      exact ON.k hst2 fun r' K' h => bif_i hc h
    rename_i y0 n0 c0 k0
    split at hst
    case h_2 => exact hst.elim
    rename_i as0 st0 hpop
    obtain ⟨hb0, hst2⟩ := bif_t hst
    clear hst
    split at hst2
    · rename_i v σ' hS
      split at hst2
      · refine ON.k hst2 fun r' K' h => ?_
        simp only [stp, acl, hpop, hS]
        exact bif_i hb0 h
      · rename_i hk
        refine ON.k hst2 fun r' K' h => ?_
        simp only [stp, acl, hpop, hS]
        exact bif_i hb0 h
    · rename_i o v σ' hS
      obtain ⟨ho, hst2⟩ := hst2
      split at hst2
      · refine ON.k hst2 fun r' K' h => ?_
        simp only [stp, acl, hpop, hS]
        exact bif_i hb0 ⟨ho, h⟩
      · rename_i hk
        refine ON.k hst2 fun r' K' h => ?_
        simp only [stp, acl, hpop, hS]
        exact bif_i hb0 ⟨ho, h⟩
    · rename_i hS
      split at hst2
      · obtain ⟨σ', h1, h2⟩ := hst2
        refine ON.k h2 fun r' K' h => ?_
        simp only [stp, acl, hpop, hS]
        exact bif_i hb0 ⟨σ', h1, h⟩
      · obtain ⟨x, σ', h1, h2⟩ := hst2
        refine ON.k h2 fun r' K' h => ?_
        simp only [stp, acl, hpop, hS]
        exact bif_i hb0 ⟨x, σ', h1, h⟩
      · rename_i hk1 hk2
        obtain ⟨r, σ', h1, h2⟩ := hst2
        refine ON.k h2 fun r' K' h => ?_
        simp only [stp, acl, hpop, hS]
        exact bif_i hb0 ⟨r, σ', h1, h⟩
  case ireturn  =>
    split at hst
    case h_2 => exact hst.elim
    cases bz
    · exact ON.r hst fun r' K' h => h
    · exact ON.r hst.2 fun r' K' h => And.intro hst.1 h
  case areturn  =>
    split at hst
    case h_2 => exact hst.elim
    exact ON.r hst fun r' K' h => h
  case return_  =>
    split at hst
    case h_2 => exact hst.elim
    exact ON.r hst fun r' K' h => h
end SNO
