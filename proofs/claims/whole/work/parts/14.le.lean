def LE : List AV → List AV → Prop
  | [], [] => True
  | a :: l, b :: l' => (a = vu ∨ a = b) ∧ LE l l'
  | _, _ => False
theorem LE.rf : ∀ (l : List AV), LE l l
  | [] => trivial
  | _ :: l => ⟨Or.inr rfl, LE.rf l⟩
theorem LE.at : ∀ {l l' : List AV} {i : Nat} {v : AV}, LE l l' → nth l i = some v → v ≠ vu → nth l' i = some v
  | [], [], _, _, _, h, _ => h
  | a :: l, b :: l', 0, v, h, h1, h2 => by
    simp only [nth, Option.some.injEq] at h1 ⊢
    subst h1
    rcases h.1 with q | q
    · exact absurd q h2
    · exact q.symm
  | a :: l, b :: l', i + 1, v, h, h1, h2 => by
    simp only [nth] at h1 ⊢
    exact LE.at h.2 h1 h2
  | [], _ :: _, _, _, h, _, _ => h.elim
  | _ :: _, [], _, _, h, _, _ => h.elim
theorem LE.set : ∀ {l l' : List AV} (i : Nat) (v : AV), LE l l' → LE (stl l i v) (stl l' i v)
  | [], [], _, _, h => h
  | a :: l, b :: l', 0, v, h => ⟨Or.inr rfl, h.2⟩
  | a :: l, b :: l', i + 1, v, h => ⟨h.1, LE.set i v h.2⟩
  | [], _ :: _, _, _, h => h.elim
  | _ :: _, [], _, _, h => h.elim
theorem LE.un : ∀ {l l' : List AV} (i : Nat), LE l l' → LE (stl l i vu) l'
  | [], [], _, h => h
  | a :: l, b :: l', 0, h => ⟨Or.inl rfl, h.2⟩
  | a :: l, b :: l', i + 1, h => ⟨h.1, LE.un i h.2⟩
  | [], _ :: _, _, h => h.elim
  | _ :: _, [], _, h => h.elim
theorem LE.un2 : ∀ {l l' : List AV} (i : Nat), LE l l' → (∀ v, nth l i = some v → v = vu) → LE l (stl l' i vu)
  | [], [], _, h, _ => h
  | a :: l, b :: l', 0, h, hv => ⟨Or.inl (hv a rfl), h.2⟩
  | a :: l, b :: l', i + 1, h, hv => ⟨h.1, LE.un2 i h.2 hv⟩
  | [], _ :: _, _, h, _ => h.elim
  | _ :: _, [], _, h, _ => h.elim
theorem LE.len : ∀ {l l' : List AV}, LE l l' → l.length = l'.length
  | [], [], _ => rfl
  | _ :: _, _ :: _, h => by simp [LE.len h.2]
  | [], _ :: _, h => h.elim
  | _ :: _, [], h => h.elim
theorem LE_kl {l l' : List AV} (i : Nat) (h : LE l l') : LE (kl l i) (kl l' i) := by
  cases i with
  | zero => exact h
  | succ n =>
    simp only [kl]
    split
    · rename_i x hx
      rw [h.at hx (by intro q; cases q)]
      exact h.set n vu
    · rename_i hx
      split
      · rename_i x hx'
        refine LE.un2 n h fun v hv => ?_
        by_cases q : v = vu
        · exact q
        · have := h.at hv q
          rw [hx'] at this
          cases this
          exact absurd hv (hx x)
      · exact h
def KE (K : KT) : KT := fun pc la sa σ => ∃ lb, LE lb la ∧ K pc lb sa σ
theorem nvu {x : Int} : (.inl x : AV) ≠ vu := by intro h; cases h
theorem nvr {r : Option (Nat × Int)} : (.inr (.inl r) : AV) ≠ vu := by intro h; cases h
theorem nvl {x : Int} : (vl x : AV) ≠ vu := by intro h; cases h
theorem cnd_imp {c : ClassFile.Cond} {x y : Int} {A B A' B' : Prop} (h : cnd c x y A B) (ha : A → A') (hb : B → B') : cnd c x y A' B' := by
  cases c <;> exact ⟨fun q => by first | exact ha (h.1 q) | exact hb (h.1 q), fun q => by first | exact hb (h.2 q) | exact ha (h.2 q)⟩
theorem tsw_imp {x : Int} {K K' : Nat → Prop} (hk : ∀ t, K t → K' t) : ∀ (ts : List Nat) (lo : Int), tsw x K lo ts → tsw x K' lo ts
  | [], _, _ => trivial
  | _ :: ts, lo, h => ⟨fun q => hk _ (h.1 q), tsw_imp hk ts (lo + 1) h.2⟩
theorem lsw_imp {x : Int} {K K' : Nat → Prop} (hk : ∀ t, K t → K' t) : ∀ (ps : List (Int × Int)) (ts : List Nat), lsw x K ps ts → lsw x K' ps ts
  | [], _, _ => trivial
  | _ :: _, [], _ => trivial
  | (_, _) :: ps, _ :: ts, h => ⟨fun q => hk _ (h.1 q), lsw_imp hk ps ts h.2⟩
theorem lsN_imp {x : Int} {A A' : Prop} (hk : A → A') : ∀ (ps : List (Int × Int)), lsN x ps A → lsN x ps A'
  | [], h => hk h
  | (_, _) :: ps, h => fun q => lsN_imp hk ps (h q)
set_option maxHeartbeats 4000000 in
theorem stp_le {Cal : CT} {ret : AV → SS → Prop} {K : KT} {ins : AI} {pc : Nat} {la lb sa : List AV} {σ : SS} {bz : Bool} (hle : LE la lb)
  (hst : stp Cal noS ret K bz ins pc la sa σ) : stp Cal noS ret (KE K) bz ins pc lb sa σ := by
  obtain ⟨J, ns, z⟩ := ins
  cases J <;> simp only [stp] at hst
  all_goals first | exact hst.elim | skip
  case aload_n i =>
    simp only [aLd] at hst
    split at hst
    case h_2 => exact hst.elim
    rename_i x hr
    simp only [stp, aLd, hle.at hr nvr]
    exact ⟨_, hle, hst⟩
  case aload i =>
    simp only [aLd] at hst
    split at hst
    case h_2 => exact hst.elim
    rename_i x hr
    simp only [stp, aLd, hle.at hr nvr]
    exact ⟨_, hle, hst⟩
  case iload_n i =>
    simp only [iLd] at hst
    split at hst
    case h_2 => exact hst.elim
    rename_i x hr
    simp only [stp, iLd, hle.at hr nvu]
    exact ⟨_, hle, hst⟩
  case iload i =>
    simp only [iLd] at hst
    split at hst
    case h_2 => exact hst.elim
    rename_i x hr
    simp only [stp, iLd, hle.at hr nvu]
    exact ⟨_, hle, hst⟩
  case lload_n i =>
    simp only [lLd] at hst
    split at hst
    case h_2 => exact hst.elim
    rename_i x hr
    simp only [stp, lLd, hle.at hr nvl]
    exact ⟨_, hle, hst⟩
  case lload i =>
    simp only [lLd] at hst
    split at hst
    case h_2 => exact hst.elim
    rename_i x hr
    simp only [stp, lLd, hle.at hr nvl]
    exact ⟨_, hle, hst⟩
  case istore_n i =>
    simp only [iSt] at hst
    split at hst
    case h_2 => exact hst.elim
    obtain ⟨h0, h1⟩ := bif_t hst
    exact bif_i (by rw [← hle.len]; exact h0) ⟨_, (LE_kl _ hle).set _ _, h1⟩
  case istore i =>
    simp only [iSt] at hst
    split at hst
    case h_2 => exact hst.elim
    obtain ⟨h0, h1⟩ := bif_t hst
    exact bif_i (by rw [← hle.len]; exact h0) ⟨_, (LE_kl _ hle).set _ _, h1⟩
  case astore_n i =>
    simp only [aSt] at hst
    split at hst
    case h_2 => exact hst.elim
    obtain ⟨h0, h1⟩ := bif_t hst
    exact bif_i (by rw [← hle.len]; exact h0) ⟨_, (LE_kl _ hle).set _ _, h1⟩
  case astore i =>
    simp only [aSt] at hst
    split at hst
    case h_2 => exact hst.elim
    obtain ⟨h0, h1⟩ := bif_t hst
    exact bif_i (by rw [← hle.len]; exact h0) ⟨_, (LE_kl _ hle).set _ _, h1⟩
  case lstore_n i =>
    simp only [lSt] at hst
    split at hst
    case h_2 => exact hst.elim
    obtain ⟨h0, h1⟩ := bif_t hst
    exact bif_i (by rw [← hle.len]; exact h0) ⟨_, ((LE_kl _ hle).set _ _).set _ _, h1⟩
  case lstore i =>
    simp only [lSt] at hst
    split at hst
    case h_2 => exact hst.elim
    obtain ⟨h0, h1⟩ := bif_t hst
    exact bif_i (by rw [← hle.len]; exact h0) ⟨_, ((LE_kl _ hle).set _ _).set _ _, h1⟩
  case iconst n =>
    exact ⟨_, hle, hst⟩
  case bipush n =>
    exact ⟨_, hle, hst⟩
  case sipush n =>
    exact ⟨_, hle, hst⟩
  case ldc n =>
    exact ⟨_, hle, hst⟩
  case ldc2_w n =>
    exact ⟨_, hle, hst⟩
  case lconst n =>
    exact ⟨_, hle, hst⟩
  case aconst_null  =>
    exact ⟨_, hle, hst⟩
  case iadd  =>
    split at hst
    case h_2 => exact hst.elim
    exact And.intro hst.1 ⟨_, hle, hst.2⟩
  case isub  =>
    split at hst
    case h_2 => exact hst.elim
    exact And.intro hst.1 ⟨_, hle, hst.2⟩
  case imul  =>
    split at hst
    case h_2 => exact hst.elim
    exact And.intro hst.1 ⟨_, hle, hst.2⟩
  case idiv  =>
    split at hst
    case h_2 => exact hst.elim
    exact And.intro hst.1 ⟨_, hle, hst.2⟩
  case irem  =>
    split at hst
    case h_2 => exact hst.elim
    exact And.intro hst.1 ⟨_, hle, hst.2⟩
  case ior  =>
    split at hst
    case h_2 => exact hst.elim
    exact And.intro hst.1 ⟨_, hle, hst.2⟩
  case ladd  =>
    split at hst
    case h_2 => exact hst.elim
    exact And.intro hst.1 ⟨_, hle, hst.2⟩
  case lsub  =>
    split at hst
    case h_2 => exact hst.elim
    exact And.intro hst.1 ⟨_, hle, hst.2⟩
  case lmul  =>
    split at hst
    case h_2 => exact hst.elim
    exact And.intro hst.1 ⟨_, hle, hst.2⟩
  case ldiv  =>
    split at hst
    case h_2 => exact hst.elim
    exact And.intro hst.1 ⟨_, hle, hst.2⟩
  case lrem  =>
    split at hst
    case h_2 => exact hst.elim
    exact And.intro hst.1 ⟨_, hle, hst.2⟩
  case land  =>
    split at hst
    case h_2 => exact hst.elim
    exact And.intro hst.1 ⟨_, hle, hst.2⟩
  case lshl  =>
    split at hst
    case h_2 => exact hst.elim
    exact And.intro hst.1 ⟨_, hle, hst.2⟩
  case l2i  =>
    split at hst
    case h_2 => exact hst.elim
    exact And.intro hst.1 ⟨_, hle, hst.2⟩
  case iand  =>
    split at hst
    case h_3 => exact hst.elim
    case h_1 => exact And.intro hst.1 ⟨_, hle, hst.2⟩
    case h_2 =>
      rename_i hne
      rcases ns with _ | ⟨n0, _ | ⟨n1, ns⟩⟩
      · exact And.intro hst.1 ⟨_, hle, hst.2⟩
      · first | exact absurd rfl (hne n0) | exact (hne _ rfl).elim
      · exact And.intro hst.1 ⟨_, hle, hst.2⟩
  case i2l  =>
    split at hst
    case h_2 => exact hst.elim
    exact ⟨_, hle, hst⟩
  case lcmp  =>
    split at hst
    case h_2 => exact hst.elim
    exact ⟨_, hle, hst⟩
  case dup2  =>
    split at hst
    case h_2 => exact hst.elim
    exact ⟨_, hle, hst⟩
  case dup  =>
    split at hst
    case h_3 => exact hst.elim
    all_goals exact ⟨_, hle, hst⟩
  case iinc i n =>
    split at hst
    case h_2 => exact hst.elim
    rename_i x0 hr
    simp only [stp, hle.at hr nvu]
    exact ⟨hst.1, _, (LE_kl _ hle).set _ _, hst.2⟩
  case if_icmp cc off =>
    split at hst
    case h_2 => exact hst.elim
    exact cnd_imp hst (fun q => ⟨_, hle, q⟩) (fun q => ⟨_, hle, q⟩)
  case ifCond cc off =>
    split at hst
    case h_2 => exact hst.elim
    exact cnd_imp hst (fun q => ⟨_, hle, q⟩) (fun q => ⟨_, hle, q⟩)
  case ifnull off =>
    split at hst
    case h_3 => exact hst.elim
    all_goals exact ⟨_, hle, hst⟩
  case ifnonnull off =>
    split at hst
    case h_3 => exact hst.elim
    all_goals exact ⟨_, hle, hst⟩
  case goto off =>
    split at hst
    case h_2 => exact hst.elim
    exact ⟨_, hle, hst⟩
  case tableswitch dflt lo hi offs =>
    rcases ns with _ | ⟨t, ts⟩
    · exact False.elim hst
    rcases sa with _ | ⟨v0, st0⟩
    · exact False.elim hst
    rcases v0 with x0 | v0
    case inr => exact False.elim hst
    exact And.intro (fun q => ⟨_, hle, hst.1 q⟩) (tsw_imp (fun t q => ⟨_, hle, q⟩) _ _ hst.2)
  case lookupswitch dflt ps =>
    rcases ns with _ | ⟨t, ts⟩
    · exact False.elim hst
    rcases sa with _ | ⟨v0, st0⟩
    · exact False.elim hst
    rcases v0 with x0 | v0
    case inr => exact False.elim hst
    exact And.intro (lsN_imp (fun q => ⟨_, hle, q⟩) _ hst.1) (lsw_imp (fun t q => ⟨_, hle, q⟩) _ _ hst.2)
  case getfield n =>
    split at hst
    case h_2 => exact hst.elim
    obtain ⟨hc, hst2⟩ := bif_t hst
    clear hst
    refine bif_i hc ?_
    split at hst2
    · exact ⟨_, hle, hst2⟩
    · exact ⟨_, hle, hst2⟩
  case putfield n =>
    split at hst
    case h_2 => exact hst.elim
    obtain ⟨hc, hst2⟩ := bif_t hst
    clear hst
    refine bif_i hc ?_
    split at hst2
    · exact ⟨_, hle, hst2⟩
    · exact ⟨hst2.1, _, hle, hst2.2⟩
    · exact hst2.elim
  case iaload  =>
    split at hst
    case h_2 => exact hst.elim
    obtain ⟨hc, hst2⟩ := bif_t hst
    exact bif_i hc ⟨hst2.1, _, hle, hst2.2⟩
  case baload  =>
    split at hst
    case h_2 => exact hst.elim
    obtain ⟨hc, hst2⟩ := bif_t hst
    exact bif_i hc ⟨hst2.1, _, hle, hst2.2⟩
  case iastore  =>
    split at hst
    case h_2 => exact hst.elim
    obtain ⟨hc, hst2⟩ := bif_t hst
    exact bif_i hc ⟨hst2.1, _, hle, hst2.2⟩
  case bastore  =>
    split at hst
    case h_2 => exact hst.elim
    obtain ⟨hc, hst2⟩ := bif_t hst
    exact bif_i hc ⟨hst2.1, _, hle, hst2.2⟩
  case aaload  =>
    split at hst
    case h_2 => exact hst.elim
    obtain ⟨hc, hst2⟩ := bif_t hst
    exact bif_i hc ⟨hst2.1, _, hle, hst2.2⟩
  case arraylength  =>
    split at hst
    case h_2 => exact hst.elim
    rename_i t i st0
    cases hq : Nat.beq (ak t) 0
    · rw [hq] at hst
      show (bif Nat.beq (ak t) 0 then False else _)
      rw [hq]
      exact ⟨_, hle, hst⟩
    · rw [hq] at hst
      exact hst.elim
  case invokevirtual n =>
    simp only [acl, noS] at hst
    split at hst
    case h_3 => exact hst.elim
    case h_2 =>
      split at hst
      case h_2 => exact hst.elim
      obtain ⟨hc, hst2⟩ := bif_t hst
      exact bif_i hc ⟨_, hle, hst2⟩
    rename_i y0 n0 c0 k0
    split at hst
    case h_2 => exact hst.elim
    rename_i as0 st0 hpop
    obtain ⟨hb0, hst2⟩ := bif_t hst
    clear hst
    simp only [stp, acl, hpop, noS]
    refine bif_i hb0 ?_
    split at hst2
    · obtain ⟨σ', h1, h2⟩ := hst2
      exact ⟨σ', h1, _, hle, h2⟩
    · obtain ⟨x, σ', h1, h2⟩ := hst2
      exact ⟨x, σ', h1, _, hle, h2⟩
    · rename_i hk1 hk2
      obtain ⟨r, σ', h1, h2⟩ := hst2
      exact ⟨r, σ', h1, _, hle, h2⟩
  case invokestatic n =>
    simp only [acl, noS] at hst
    split at hst
    case h_3 => exact hst.elim
    case h_2 =>
      split at hst
      case h_2 => exact hst.elim
      obtain ⟨hc, hst2⟩ := bif_t hst
      exact bif_i hc ⟨_, hle, hst2⟩
    rename_i y0 n0 c0 k0
    split at hst
    case h_2 => exact hst.elim
    rename_i as0 st0 hpop
    obtain ⟨hb0, hst2⟩ := bif_t hst
    clear hst
    simp only [stp, acl, hpop, noS]
    refine bif_i hb0 ?_
    split at hst2
    · obtain ⟨σ', h1, h2⟩ := hst2
      exact ⟨σ', h1, _, hle, h2⟩
    · obtain ⟨x, σ', h1, h2⟩ := hst2
      exact ⟨x, σ', h1, _, hle, h2⟩
    · rename_i hk1 hk2
      obtain ⟨r, σ', h1, h2⟩ := hst2
      exact ⟨r, σ', h1, _, hle, h2⟩
  case ireturn  =>
    split at hst
    case h_2 => exact hst.elim
    exact hst
  case areturn  =>
    split at hst
    case h_2 => exact hst.elim
    exact hst
  case return_  =>
    split at hst
    case h_2 => exact hst.elim
    exact hst
theorem G_weak {d y : Nat} (hy : y < 141) (hn : y ∉ inL) {P : AV → SS → Prop} : ∀ {pc : Nat} {la lb sa : List AV} {σ : SS}, LE la lb → G d P y pc la sa σ → G d P y pc lb sa σ := by
  have key : ∀ (n pc : Nat) (la lb sa : List AV) (σ : SS), LE la lb → lp (Rn d) P (cd y) (bzm y) n pc la sa σ → lp (Rn d) P (cd y) (bzm y) n pc lb sa σ := by
    intro n
    induction n with
    | zero => intro _ _ _ _ _ _ h; exact h.elim
    | succ n ih =>
      intro pc la lb sa σ hle h
      simp only [lp] at h ⊢
      cases hi : nth (cd y) pc with
      | none => rw [hi] at h; exact h.elim
      | some ins =>
        rw [hi] at h
        have hc := chk_split (chk_in hy hn hi)
        exact stp_mono hc.2.1 (fun pc la sa σ ⟨lb', q1, q2⟩ => ih _ _ _ _ _ q1 q2) (stp_le hle h)
  intro pc la lb sa σ hle ⟨n, h⟩
  exact ⟨n, key n pc la lb sa σ hle h⟩
def msk : List Bool → List AV → List AV
  | true :: m, a :: l => a :: msk m l
  | false :: m, _ :: l => vu :: msk m l
  | [], l => l
  | _, [] => []
theorem msk_le : ∀ (m : List Bool) (l : List AV), LE (msk m l) l
  | true :: m, a :: l => ⟨Or.inr rfl, msk_le m l⟩
  | false :: m, _ :: l => ⟨Or.inl rfl, msk_le m l⟩
  | [], l => LE.rf l
  | true :: _, [] => trivial
  | false :: _, [] => trivial
def cut : List (Nat × List Bool) → Nat → Option (List Bool)
  | [], _ => none
  | (p, m) :: l, pc => bif Nat.beq p pc then some m else cut l pc
def wr (ins : AI) : Bool := match ins.1, ins.2.1 with
  | .putfield _, _ => true
  | .iastore, _ => true
  | .bastore, _ => true
  | .invokevirtual _, 1 :: _ => true
  | _, _ => false
/-- behind a write the state gets a name -/
def KA (K : KT) : KT := fun pc la sa σ' => ∀ σ1, σ1 = σ' → K pc la sa σ1
def wp (d : Nat) (S : ST) (P : AV → SS → Prop) (y : Nat) (c : List AI) (bz : Bool) (cs : List (Nat × List Bool)) : Nat → KT
  | 0, pc, la, sa, σ => G d P y pc la sa σ
  | n + 1, pc, la, sa, σ => match cut cs pc with
    | some mq => G d P y pc (msk mq la) sa σ
    | none => match nth c pc with
      | some ins => stp (Rn d) S P (bif wr ins then KA (wp d S P y c bz cs n) else wp d S P y c bz cs n) bz ins pc la sa σ
      | none => False
def w1 (d : Nat) (S : ST) (P : AV → SS → Prop) (y : Nat) (c : List AI) (bz : Bool) (cs : List (Nat × List Bool)) (n pc : Nat) (la sa : List AV) (σ : SS) : Prop := match nth c pc with
  | some ins => stp (Rn d) S P (bif wr ins then KA (wp d S P y c bz cs n) else wp d S P y c bz cs n) bz ins pc la sa σ
  | none => False
theorem KA_im {q : Bool} {K K' : KT} (h : ∀ pc la sa σ, K pc la sa σ → K' pc la sa σ) : ∀ pc la sa σ, (bif q then KA K else K) pc la sa σ → K' pc la sa σ := by
  intro pc la sa σ g
  cases q
  · exact h _ _ _ _ g
  · exact h _ _ _ _ (g σ rfl)
theorem wp_G {d y : Nat} {S : ST} {P : AV → SS → Prop} (hS : SV d S) (hy : y < 141) (hn : y ∉ inL) {cs : List (Nat × List Bool)} : ∀ (n pc : Nat) (la sa : List AV) (σ : SS), wp d S P y (cd y) (bzm y) cs n pc la sa σ → G d P y pc la sa σ
  | 0, _, _, _, _, h => h
  | n + 1, pc, la, sa, σ, h => by
    simp only [wp] at h
    split at h
    · exact G_weak hy hn (msk_le _ _) h
    · cases hi : nth (cd y) pc with
      | none => rw [hi] at h; exact h.elim
      | some ins =>
        rw [hi] at h
        have hc := chk_split (chk_in hy hn hi)
        exact G_step hy hn hi (stp_mono hc.2.1 (KA_im fun pc la sa σ => wp_G hS hy hn n pc la sa σ) (stp_S hS hc.2.2.2 h))
theorem blk {d y : Nat} {S : ST} {P : AV → SS → Prop} {c : List AI} {bz : Bool} (cs : List (Nat × List Bool)) (n : Nat) {pc : Nat} {la sa : List AV} {σ : SS} (hS : SV d S) (hy : (decide (y < 141) && !inL.elem y) = true) (hc : cd y = c) (hb : bzm y = bz) (h : w1 d S P y c bz cs n pc la sa σ) : G d P y pc la sa σ := by
  subst hc; subst hb
  simp only [Bool.and_eq_true, decide_eq_true_eq, Bool.not_eq_true'] at hy
  have hn : y ∉ inL := fun q => by have := hy.2; rw [List.elem_eq_mem] at this; simp [q] at this
  simp only [w1] at h
  cases hi : nth (cd y) pc with
  | none => rw [hi] at h; exact h.elim
  | some ins =>
    rw [hi] at h
    have hc := chk_split (chk_in hy.1 hn hi)
    exact G_step hy.1 hn hi (stp_mono hc.2.1 (KA_im fun pc la sa σ => wp_G hS hy.1 hn n pc la sa σ) (stp_S hS hc.2.2.2 h))
/-! ===== rows ===== -/
def rg (n : Int) (f : Int → Int) (j : Int) : Int := if 0 ≤ j ∧ j < n then f j else 0
def us (n : Int) (σ : SS) (t : Nat) (i j x : Int) : SS := if 0 ≤ j ∧ j < n then up σ t i j x else σ
