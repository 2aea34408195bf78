def stl : List AV → Nat → AV → List AV
  | [], _, _ => []
  | _ :: l, 0, v => v :: l
  | a :: l, n + 1, v => a :: stl l n v
def up (σ : SS) (t : Nat) (i j v : Int) : SS := fun t' i' j' => if t' = t ∧ i' = i ∧ j' = j then v else σ t' i' j'
def ir (x : Int) : Prop := -2147483648 ≤ x ∧ x ≤ 2147483647
def il (x : Int) : Prop := -9223372036854775808 ≤ x ∧ x ≤ 9223372036854775807
def lc (x y : Int) : Int := if x > y then 1 else if x = y then 0 else -1
/-- what stands just below a place that is written goes, if it was a long -/
def kl : List AV → Nat → List AV
  | l, 0 => l
  | l, n + 1 => match nth l n with
    | some (.inr (.inr (.inl _))) => stl l n vu
    | _ => l
def cls (t : Nat) : Nat := nd clsL t
def ak (t : Nat) : Nat := nd akL t
def aln (σ : SS) (t : Nat) : Int := bif Nat.beq t 99 then σ 99 0 (-1) else ndI alL t
def rf (t k : Nat) : Nat := nd (ndL rfL t) k
def el (t : Nat) : Nat := nd elL t
def pop : Nat → List AV → List AV → Option (List AV × List AV)
  | 0, acc, st => some (acc, st)
  | n + 1, acc, v :: st => pop n (v :: acc) st
  | _ + 1, _, [] => none
def cat1 : List AV → Bool
  | [] => true
  | .inr (.inr _) :: _ => false
  | _ :: l => cat1 l
def rcv : Nat → List AV → Bool
  | 0, _ => true
  | c + 1, .inr (.inl (some (t, _))) :: _ => Nat.beq (cls t) (c + 1)
  | _, _ => false
def n99 : List AV → Bool
  | [] => true
  | .inr (.inl (some (t, _))) :: l => !Nat.beq t 99 && n99 l
  | .inr (.inr _) :: _ => false
  | _ :: l => n99 l
def tsw (x : Int) (K : Nat → Prop) : Int → List Nat → Prop
  | _, [] => True
  | lo, t :: ts => (x = lo → K t) ∧ tsw x K (lo + 1) ts
def lsN (x : Int) : List (Int × Int) → Prop → Prop
  | [], A => A
  | (k, _) :: l, A => x ≠ k → lsN x l A
def lsw (x : Int) (K : Nat → Prop) : List (Int × Int) → List Nat → Prop
  | (k, _) :: l, t :: ts => (x = k → K t) ∧ lsw x K l ts
  | _, _ => True
def cnd (c : ClassFile.Cond) (x y : Int) (A B : Prop) : Prop := match c with
  | .eq => (x = y → A) ∧ (x ≠ y → B)
  | .ne => (x ≠ y → A) ∧ (x = y → B)
  | .lt => (x < y → A) ∧ (y ≤ x → B)
  | .ge => (y ≤ x → A) ∧ (x < y → B)
  | .gt => (y < x → A) ∧ (x ≤ y → B)
  | .le => (x ≤ y → A) ∧ (y < x → B)
abbrev KT : Type := Nat → List AV → List AV → SS → Prop
def aLd (K : KT) (i pc : Nat) (ls st : List AV) (σ : SS) : Prop := match nth ls i with
  | some (.inr (.inl r)) => K (pc + 1) ls (.inr (.inl r) :: st) σ
  | _ => False
def iLd (K : KT) (i pc : Nat) (ls st : List AV) (σ : SS) : Prop := match nth ls i with
  | some (.inl x) => K (pc + 1) ls (.inl x :: st) σ
  | _ => False
def lLd (K : KT) (i pc : Nat) (ls st : List AV) (σ : SS) : Prop := match nth ls i with
  | some (.inr (.inr (.inl x))) => K (pc + 1) ls (vl x :: st) σ
  | _ => False
def aSt (K : KT) (i pc : Nat) (ls st : List AV) (σ : SS) : Prop := match st with
  | .inr (.inl r) :: st => bif Nat.ble (i + 1) ls.length then K (pc + 1) (stl (kl ls i) i (.inr (.inl r))) st σ else False
  | _ => False
def iSt (K : KT) (i pc : Nat) (ls st : List AV) (σ : SS) : Prop := match st with
  | .inl x :: st => bif Nat.ble (i + 1) ls.length then K (pc + 1) (stl (kl ls i) i (.inl x)) st σ else False
  | _ => False
def lSt (K : KT) (i pc : Nat) (ls st : List AV) (σ : SS) : Prop := match st with
  | .inr (.inr (.inl x)) :: st => bif Nat.ble (i + 2) ls.length then K (pc + 1) (stl (stl (kl ls i) i (vl x)) (i + 1) vu) st σ else False
  | _ => False
abbrev CT : Type := Nat → List AV → SS → AV → SS → Prop
abbrev ST : Type := Nat → List AV → SS → Option (Option Prop × AV × SS)
/-- a call: [method, args, class + 1 of what it is called on or 0, kind of answer: 0 none, 1 int, 2 reference] -/
def acl (Cal : CT) (S : ST) (K : KT) (op : List Nat) (pc : Nat) (ls st : List AV) (σ : SS) : Prop := match op with
  | [y, n, c, k] => match pop n [] st with
    | some (as, st) => bif (Nat.ble st.length 8 && cat1 st) && (rcv c as && n99 as) then
        match S y as σ with
        | some (none, v, σ') => (match k with
          | 0 => K (pc + 1) ls st σ'
          | _ => K (pc + 1) ls (v :: st) σ')
        | some (some o, v, σ') => o ∧ (match k with
          | 0 => K (pc + 1) ls st σ'
          | _ => K (pc + 1) ls (v :: st) σ')
        | none => (match k with
          | 0 => ∃ σ', Cal y as σ vu σ' ∧ K (pc + 1) ls st σ'
          | 1 => ∃ x σ', Cal y as σ (.inl x) σ' ∧ K (pc + 1) ls (.inl x :: st) σ'
          | _ => ∃ r σ', Cal y as σ (.inr (.inl r)) σ' ∧ K (pc + 1) ls (.inr (.inl r) :: st) σ')
      else False
    | none => False
  | [_] => (match st with
    | .inl y :: .inl x :: st => bif cat1 st && Nat.ble st.length 8 then K (pc + 1) ls (.inl (max x y) :: st) σ else False
    | _ => False)
  | _ => False
def stp (Cal : CT) (S : ST) (ret : AV → SS → Prop) (K : KT) (bz : Bool) (ins : AI) (pc : Nat) (ls st : List AV) (σ : SS) : Prop :=
  match ins.1 with
  | .aload_n i => aLd K i.1 pc ls st σ
  | .aload i => aLd K i pc ls st σ
  | .iload_n i => iLd K i.1 pc ls st σ
  | .iload i => iLd K i pc ls st σ
  | .lload_n i => lLd K i.1 pc ls st σ
  | .lload i => lLd K i pc ls st σ
  | .astore_n i => aSt K i.1 pc ls st σ
  | .astore i => aSt K i pc ls st σ
  | .istore_n i => iSt K i.1 pc ls st σ
  | .istore i => iSt K i pc ls st σ
  | .lstore_n i => lSt K i.1 pc ls st σ
  | .lstore i => lSt K i pc ls st σ
  | .iconst n => K (pc + 1) ls (.inl n :: st) σ
  | .bipush n => K (pc + 1) ls (.inl n :: st) σ
  | .sipush n => K (pc + 1) ls (.inl n :: st) σ
  | .ldc _ => K (pc + 1) ls (.inl ins.2.2 :: st) σ
  | .ldc2_w _ => K (pc + 1) ls (vl ins.2.2 :: st) σ
  | .lconst _ => K (pc + 1) ls (vl ins.2.2 :: st) σ
  | .aconst_null => K (pc + 1) ls (vz :: st) σ
  | .iadd => (match st with
    | .inl y :: .inl x :: st => ir (x + y) ∧ K (pc + 1) ls (.inl (x + y) :: st) σ
    | _ => False)
  | .isub => (match st with
    | .inl y :: .inl x :: st => ir (x - y) ∧ K (pc + 1) ls (.inl (x - y) :: st) σ
    | _ => False)
  | .imul => (match st with
    | .inl y :: .inl x :: st => ir (x * y) ∧ K (pc + 1) ls (.inl (x * y) :: st) σ
    | _ => False)
  | .idiv => (match st with
    | .inl y :: .inl x :: st => (0 ≤ x ∧ 0 < y) ∧ K (pc + 1) ls (.inl (x / y) :: st) σ
    | _ => False)
  | .irem => (match st with
    | .inl y :: .inl x :: st => (0 ≤ x ∧ 0 < y) ∧ K (pc + 1) ls (.inl (x % y) :: st) σ
    | _ => False)
  | .iand => (match ins.2.1, st with
    | [_], .inl y :: .inl x :: st => y = 31 ∧ K (pc + 1) ls (.inl (x % 32) :: st) σ
    | _, .inl y :: .inl x :: st => (0 ≤ x ∧ 0 ≤ y) ∧ K (pc + 1) ls (.inl ((x.toNat &&& y.toNat : Nat) : Int) :: st) σ
    | _, _ => False)
  | .ior => (match st with
    | .inl y :: .inl x :: st => (0 ≤ x ∧ 0 ≤ y) ∧ K (pc + 1) ls (.inl ((x.toNat ||| y.toNat : Nat) : Int) :: st) σ
    | _ => False)
  | .ladd => (match st with
    | .inr (.inr (.inl y)) :: .inr (.inr (.inl x)) :: st => il (x + y) ∧ K (pc + 1) ls (vl (x + y) :: st) σ
    | _ => False)
  | .lsub => (match st with
    | .inr (.inr (.inl y)) :: .inr (.inr (.inl x)) :: st => il (x - y) ∧ K (pc + 1) ls (vl (x - y) :: st) σ
    | _ => False)
  | .lmul => (match st with
    | .inr (.inr (.inl y)) :: .inr (.inr (.inl x)) :: st => il (x * y) ∧ K (pc + 1) ls (vl (x * y) :: st) σ
    | _ => False)
  | .ldiv => (match st with
    | .inr (.inr (.inl y)) :: .inr (.inr (.inl x)) :: st => (0 ≤ x ∧ 0 < y) ∧ K (pc + 1) ls (vl (x / y) :: st) σ
    | _ => False)
  | .lrem => (match st with
    | .inr (.inr (.inl y)) :: .inr (.inr (.inl x)) :: st => (0 ≤ x ∧ 0 < y) ∧ K (pc + 1) ls (vl (x % y) :: st) σ
    | _ => False)
  | .land => (match st with
    | .inr (.inr (.inl y)) :: .inr (.inr (.inl x)) :: st => (0 ≤ x ∧ y = 1) ∧ K (pc + 1) ls (vl (x % 2) :: st) σ
    | _ => False)
  | .lshl => (match st with
    | .inl y :: .inr (.inr (.inl x)) :: st => (0 ≤ x ∧ y = 23 ∧ il (x * 8388608)) ∧ K (pc + 1) ls (vl (x * 8388608) :: st) σ
    | _ => False)
  | .i2l => (match st with
    | .inl x :: st => K (pc + 1) ls (vl x :: st) σ
    | _ => False)
  | .l2i => (match st with
    | .inr (.inr (.inl x)) :: st => ir x ∧ K (pc + 1) ls (.inl x :: st) σ
    | _ => False)
  | .lcmp => (match st with
    | .inr (.inr (.inl y)) :: .inr (.inr (.inl x)) :: st => K (pc + 1) ls (.inl (lc x y) :: st) σ
    | _ => False)
  | .dup => (match st with
    | .inl x :: st => K (pc + 1) ls (.inl x :: .inl x :: st) σ
    | .inr (.inl r) :: st => K (pc + 1) ls (.inr (.inl r) :: .inr (.inl r) :: st) σ
    | _ => False)
  | .dup2 => (match st with
    | .inl x :: .inr (.inl r) :: st => K (pc + 1) ls (.inl x :: .inr (.inl r) :: .inl x :: .inr (.inl r) :: st) σ
    | _ => False)
  | .iinc i n => (match nth ls i with
    | some (.inl x) => ir (x + n) ∧ K (pc + 1) (stl (kl ls i) i (.inl (x + n))) st σ
    | _ => False)
  | .if_icmp c _ => (match ins.2.1, st with
    | [t], .inl y :: .inl x :: st => cnd c x y (K t ls st σ) (K (pc + 1) ls st σ)
    | _, _ => False)
  | .ifCond c _ => (match ins.2.1, st with
    | [t], .inl x :: st => cnd c x 0 (K t ls st σ) (K (pc + 1) ls st σ)
    | _, _ => False)
  | .ifnull _ => (match ins.2.1, st with
    | [t], .inr (.inl none) :: st => K t ls st σ
    | [_], .inr (.inl (some _)) :: st => K (pc + 1) ls st σ
    | _, _ => False)
  | .ifnonnull _ => (match ins.2.1, st with
    | [_], .inr (.inl none) :: st => K (pc + 1) ls st σ
    | [t], .inr (.inl (some _)) :: st => K t ls st σ
    | _, _ => False)
  | .goto _ => (match ins.2.1 with
    | [t] => K t ls st σ
    | _ => False)
  | .tableswitch _ lo hi _ => (match ins.2.1, st with
    | t :: ts, .inl x :: st => (x < lo ∨ hi < x → K t ls st σ) ∧ tsw x (fun t => K t ls st σ) lo ts
    | _, _ => False)
  | .lookupswitch _ ps => (match ins.2.1, st with
    | t :: ts, .inl x :: st => lsN x ps.toList (K t ls st σ) ∧ lsw x (fun t => K t ls st σ) ps.toList ts
    | _, _ => False)
  | .getfield _ => (match ins.2.1, st with
    | [c, k, q], .inr (.inl (some (t, i))) :: st => bif Nat.beq (cls t) c then
        (match q with
        | 2 => K (pc + 1) ls (vr (rf t k) i :: st) σ
        | _ => K (pc + 1) ls (.inl (σ t i ins.2.2) :: st) σ) else False
    | _, _ => False)
  | .putfield _ => (match ins.2.1, st with
    | [c, _, q], .inl x :: .inr (.inl (some (t, i))) :: st => bif Nat.beq (cls t) c then
        (match q with
        | 0 => K (pc + 1) ls st (up σ t i ins.2.2 x)
        | 1 => (x = 0 ∨ x = 1) ∧ K (pc + 1) ls st (up σ t i ins.2.2 x)
        | _ => False) else False
    | _, _ => False)
  | .iaload => (match st with
    | .inl j :: .inr (.inl (some (t, i))) :: st => bif Nat.beq (ak t) 1 then (0 ≤ j ∧ j < aln σ t) ∧ K (pc + 1) ls (.inl (σ t i j) :: st) σ else False
    | _ => False)
  | .baload => (match st with
    | .inl j :: .inr (.inl (some (t, i))) :: st => bif Nat.beq (ak t) 2 then (0 ≤ j ∧ j < aln σ t) ∧ K (pc + 1) ls (.inl (σ t i j) :: st) σ else False
    | _ => False)
  | .iastore => (match st with
    | .inl x :: .inl j :: .inr (.inl (some (t, i))) :: st => bif Nat.beq (ak t) 1 && !Nat.beq t 99 then (0 ≤ j ∧ j < aln σ t) ∧ K (pc + 1) ls st (up σ t i j x) else False
    | _ => False)
  | .bastore => (match st with
    | .inl x :: .inl j :: .inr (.inl (some (t, i))) :: st => bif Nat.beq (ak t) 2 then ((0 ≤ j ∧ j < aln σ t) ∧ (x = 0 ∨ x = 1)) ∧ K (pc + 1) ls st (up σ t i j x) else False
    | _ => False)
  | .aaload => (match st with
    | .inl j :: .inr (.inl (some (t, _))) :: st => bif Nat.ble 3 (ak t) then (0 ≤ j ∧ j < aln σ t) ∧ K (pc + 1) ls (vr (el t) j :: st) σ else False
    | _ => False)
  | .arraylength => (match st with
    | .inr (.inl (some (t, _))) :: st => bif Nat.beq (ak t) 0 then False else K (pc + 1) ls (.inl (aln σ t) :: st) σ
    | _ => False)
  | .invokevirtual _ => acl Cal S K ins.2.1 pc ls st σ
  | .invokestatic _ => acl Cal S K ins.2.1 pc ls st σ
  | .ireturn => (match st with
    | [.inl x] => bif bz then (x = 0 ∨ x = 1) ∧ ret (.inl x) σ else ret (.inl x) σ
    | _ => False)
  | .areturn => (match st with
    | [.inr (.inl r)] => ret (.inr (.inl r)) σ
    | _ => False)
  | .return_ => (match st with
    | [] => ret vu σ
    | _ => False)
  | _ => False
def noS : ST := fun _ _ _ => none
def lp (Cal : CT) (ret : AV → SS → Prop) (c : List AI) (bz : Bool) : Nat → KT
  | 0, _, _, _, _ => False
  | n + 1, pc, ls, st, σ => match nth c pc with
    | some ins => stp Cal noS ret (lp Cal ret c bz n) bz ins pc ls st σ
    | none => False
