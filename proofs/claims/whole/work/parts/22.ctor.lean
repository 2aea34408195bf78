def lkcl : List (Nat × Nat × Nat × Nat) := [
  (9, 7, 7, 68), (7, 9, 3, 76), (3, 9, 1, 82), (1, 9, 0, 88), (0, 9, 5, 95), (5, 9, 6, 101), (6, 9, 2, 107), (5, 18, 2, 146),
  (0, 23, 2, 195), (3, 18, 4, 257), (4, 9, 2, 263), (3, 25, 2, 312), (7, 21, 6, 371), (9, 10, 8, 746)
]
def lko : List (Nat × Nat × Nat) := [
  (7, 3, 73), (3, 3, 81), (1, 3, 87), (0, 3, 94), (5, 3, 100), (6, 3, 106), (2, 1, 112), (4, 3, 262),
  (8, 1, 751)
]
def insL : List (Nat) := [
  90, 83, 108, 77, 258, 96, 102, 69, 747
]
def iniL : List (Nat) := [
  61, 60, 64, 59, 65, 62, 63, 58, 66
]
theorem lkcl_ok : lkcl.all (fun e => lw_at e.2.2.2 (.classLink (cn e.1) e.2.1 (kc e.2.2.1).1) && decide (e.2.2.1 < 9)) = true := by decide +kernel
theorem lko_ok : lko.all (fun e => lw_at e.2.2 (.methodLink (cn e.1) e.2.1 Lib.objectInit)) = true := by decide +kernel
theorem insL_ok : (List.range 9).all (fun c => lw_at (nd insL c) (.instantiable (kc c).1 (kc c).2.2) && lw_at (nd iniL c) (.initialized (kc c).1)) = true := by decide +kernel
theorem ob_inst : Jvm.Cond.instanceMethod Lib.objectInit ∈ lw_tbl := List.mem_of_getElem? (i := 74) (by decide +kernel)
set_option maxRecDepth 100000 in
theorem ob_code : Jvm.Cond.code Lib.objectInit ⟨#[0xb1]⟩ 1 none ∈ lw_tbl := List.mem_of_getElem? (i := 75) rfl
theorem ar_int : Jvm.Cond.arrayClass .int ∈ lw_tbl := List.mem_of_getElem? (i := 117) (by decide +kernel)
theorem ar_bool : Jvm.Cond.arrayClass .boolean ∈ lw_tbl := List.mem_of_getElem? (i := 387) (by decide +kernel)
theorem ar_body : Jvm.Cond.arrayOver (.object "RegionStack$Body") ∈ lw_tbl := List.mem_of_getElem? (i := 89) (by decide +kernel)
theorem ar_text : Jvm.Cond.arrayOver (.object "RegionStack$Text") ∈ lw_tbl := List.mem_of_getElem? (i := 372) (by decide +kernel)
theorem chk_25 : chkM 7 prog_1_method_1_code bp_25 0 cd_25 = true := by decide +kernel
theorem chk_47 : chkM 8 prog_10_method_1_code bp_47 0 cd_47 = true := by decide +kernel
theorem chk_88 : chkM 0 prog_2_method_1_code bp_88 0 cd_88 = true := by decide +kernel
theorem chk_102 : chkM 1 prog_3_method_1_code bp_102 0 cd_102 = true := by decide +kernel
theorem chk_111 : chkM 2 prog_4_method_1_code bp_111 0 cd_111 = true := by decide +kernel
theorem chk_112 : chkM 3 prog_5_method_1_code bp_112 0 cd_112 = true := by decide +kernel
theorem chk_126 : chkM 4 prog_6_method_1_code bp_126 0 cd_126 = true := by decide +kernel
theorem chk_131 : chkM 5 prog_7_method_1_code bp_131 0 cd_131 = true := by decide +kernel
theorem chk_138 : chkM 6 prog_8_method_1_code bp_138 0 cd_138 = true := by decide +kernel
theorem chk_in1 {y : Nat} (h : y ∈ inL) : chkM (oc y) (byt y) (bp y) 0 (cd y) = true := by
  simp only [inL, List.mem_cons, List.not_mem_nil, or_false] at h
  rcases h with rfl | rfl | rfl | rfl | rfl | rfl | rfl | rfl | rfl
  · exact chk_25
  · exact chk_47
  · exact chk_88
  · exact chk_102
  · exact chk_111
  · exact chk_112
  · exact chk_126
  · exact chk_131
  · exact chk_138
abbrev PV : Type := Int ⊕ Option Nat
abbrev PC : Type := (Nat × List PV) ⊕ (Nat × Nat × List (Option Nat))
abbrev PH : Type := List PC
def clk (o x : Nat) : Option Nat := (lkcl.find? (fun e => decide (e.1 = o) && decide (e.2.1 = x))).map (fun e => e.2.2.1)
def olk (o x : Nat) : Bool := lko.any (fun e => decide (e.1 = o) && decide (e.2.1 = x))
def mlk (o x y : Nat) : Bool := lkm.any (fun e => decide (e.1 = o) && decide (e.2.1 = x) && decide (e.2.2.1 = y)) || lkn.any (fun e => decide (e.1 = o) && decide (e.2.1 = x) && decide (e.2.2.1 = y))
def cmB (c : ClassFile.Cond) (x y : Int) : Bool := match c with
  | .eq => decide (x = y)
  | .ne => decide (x ≠ y)
  | .lt => decide (x < y)
  | .ge => decide (y ≤ x)
  | .gt => decide (y < x)
  | .le => decide (x ≤ y)
def irB (x : Int) : Bool := decide (-2147483648 ≤ x) && decide (x ≤ 2147483647)
def stP (l : List (Option PV)) : Nat → Option PV → List (Option PV)
  | 0, v => match l with
    | [] => []
    | _ :: l => v :: l
  | n + 1, v => match l with
    | [] => []
    | a :: l => a :: stP l n v
def blankF (ci : Nat) : List PV := (List.range (kc ci).2.2).map (fun k => if isI ((kc ci).2.1 k).2.2.1 then .inl 0 else .inr none)
def takeN : Nat → List PV → List PV → Option (List PV × List PV)
  | 0, acc, st => some (acc, st)
  | n + 1, acc, v :: st => takeN n (v :: acc) st
  | _ + 1, _, [] => none
def hdR : List PV → Bool
  | .inr (some _) :: _ => true
  | _ => false
def p1 (Cal : Nat → List PV → PH → Option PH) (o : Nat) (c : List AI) : Nat → Nat → List (Option PV) → List PV → PH → Option PH
  | 0, _, _, _, _ => none
  | n + 1, pc, ls, st, h => match nth c pc with
    | none => none
    | some ins => match ins.1, ins.2.1, st with
      | .aload_n i, _, st => (match nth ls i.1 with
        | some (some (.inr (some r))) => p1 Cal o c n (pc + 1) ls (.inr (some r) :: st) h
        | _ => none)
      | .iload_n i, _, st => (match nth ls i.1 with
        | some (some (.inl x)) => p1 Cal o c n (pc + 1) ls (.inl x :: st) h
        | _ => none)
      | .istore_n i, _, .inl x :: st => bif Nat.ble (i.1 + 1) ls.length then p1 Cal o c n (pc + 1) (stP ls i.1 (some (.inl x))) st h else none
      | .iconst k, _, st => p1 Cal o c n (pc + 1) ls (.inl k :: st) h
      | .bipush k, _, st => p1 Cal o c n (pc + 1) ls (.inl k :: st) h
      | .sipush k, _, st => p1 Cal o c n (pc + 1) ls (.inl k :: st) h
      | .dup, _, v :: st => p1 Cal o c n (pc + 1) ls (v :: v :: st) h
      | .new x, _, st => (match clk o x with
        | some ci => p1 Cal o c n (pc + 1) ls (.inr (some h.length) :: st) (h ++ [.inl (ci, blankF ci)])
        | none => none)
      | .newarray .int, _, .inl k :: st => bif decide (0 ≤ k) && decide (k ≤ 100000) then p1 Cal o c n (pc + 1) ls (.inr (some h.length) :: st) (h ++ [.inr (1, k.toNat, [])]) else none
      | .newarray .boolean, _, .inl k :: st => bif decide (0 ≤ k) && decide (k ≤ 100000) then p1 Cal o c n (pc + 1) ls (.inr (some h.length) :: st) (h ++ [.inr (2, k.toNat, [])]) else none
      | .anewarray x, _, .inl k :: st => (match clk o x with
        | some 0 => bif decide (0 ≤ k) && decide (k ≤ 100000) then p1 Cal o c n (pc + 1) ls (.inr (some h.length) :: st) (h ++ [.inr (3, k.toNat, [])]) else none
        | some 6 => bif decide (0 ≤ k) && decide (k ≤ 100000) then p1 Cal o c n (pc + 1) ls (.inr (some h.length) :: st) (h ++ [.inr (4, k.toNat, [])]) else none
        | _ => none)
      | .aastore, _, .inr (some v) :: .inl j :: .inr (some a) :: st => (match h[a]?, h[v]? with
        | some (.inr (3, k, l)), some (.inl (0, _)) => bif decide (0 ≤ j) && decide (j < k) && decide (k < 100000) && decide (j.toNat = l.length) then p1 Cal o c n (pc + 1) ls st (h.set a (.inr (3, k, l ++ [some v]))) else none
        | some (.inr (4, k, l)), some (.inl (6, _)) => bif decide (0 ≤ j) && decide (j < k) && decide (k < 100000) && decide (j.toNat = l.length) then p1 Cal o c n (pc + 1) ls st (h.set a (.inr (4, k, l ++ [some v]))) else none
        | _, _ => none)
      | .getfield _, [ci, k, _], .inr (some a) :: st => (match h[a]? with
        | some (.inl (cj, fs)) => (match nth fs k with
          | some v => bif Nat.beq ci (cj + 1) then p1 Cal o c n (pc + 1) ls (v :: st) h else none
          | none => none)
        | _ => none)
      | .putfield _, [ci, k, q], v :: .inr (some a) :: st => (match h[a]? with
        | some (.inl (cj, fs)) => bif Nat.beq ci (cj + 1) && Nat.beq o cj && Nat.ble (k + 1) fs.length && (match v with
            | .inl _ => Nat.beq q 0
            | .inr _ => Nat.beq q 2) then p1 Cal o c n (pc + 1) ls st (h.set a (.inl (cj, fs.set k v))) else none
        | _ => none)
      | .arraylength, _, .inr (some a) :: st => (match h[a]? with
        | some (.inr (k, m, _)) => bif Nat.ble 1 k && Nat.ble k 4 && Nat.ble m 100000 then p1 Cal o c n (pc + 1) ls (.inl (m : Int) :: st) h else none
        | _ => none)
      | .if_icmp .ge _, [t], .inl y :: .inl x :: st => bif irB x && irB y then p1 Cal o c n (bif decide (y ≤ x) then t else pc + 1) ls st h else none
      | .ifCond .le _, [t], .inl x :: st => bif irB x then p1 Cal o c n (bif decide (x ≤ 0) then t else pc + 1) ls st h else none
      | .goto _, [t], st => p1 Cal o c n t ls st h
      | .iinc i k, _, st => (match nth ls i with
        | some (some (.inl x)) => bif irB (x + k) then p1 Cal o c n (pc + 1) (stP ls i (some (.inl (x + k)))) st h else none
        | _ => none)
      | .invokespecial x, [], .inr (some _) :: st => bif olk o x && Nat.ble st.length 8 then p1 Cal o c n (pc + 1) ls st h else none
      | .invokespecial x, [y, k, _, 0], st => (match takeN k [] st with
        | some (as, st) => bif (mlk o x y && Nat.beq k (np y + 1)) && (Nat.ble st.length 8 && hdR as) then
            (match Cal y as h with
            | some h' => p1 Cal o c n (pc + 1) ls st h'
            | none => none) else none
        | none => none)
      | .return_, _, [] => some h
      | _, _, _ => none
def P1 : Nat → Nat → List PV → PH → Option PH
  | 0 => fun _ _ _ => none
  | d + 1 => fun y as h => bif inL.elem y && decide (y < 140) && Nat.ble as.length (nl y) then p1 (P1 d) (oc y) (cd y) 400 0 (as.map some ++ List.replicate (nl y - as.length) none) [] h else none
def h1a : PH := [.inl (7, blankF 7)]
def szC : PC → Nat
  | .inl q => q.2.length
  | .inr q => q.2.1
def szs (h : PH) : Nat := (h.map szC).sum
def h1b : PH := ((P1 8 25 [.inr (some 0)] h1a).getD [])
def h1c : PH := h1b ++ [.inl (8, blankF 8)]
def h1d : PH := ((P1 8 47 [.inr (some 134)] h1c).getD [])
theorem h1b_ok : (P1 8 25 [.inr (some 0)] h1a).isSome = true := by decide +kernel
theorem h1d_ok : (P1 8 47 [.inr (some 134)] h1c).isSome = true := by decide +kernel
theorem h1d_len : h1d.length = 163 ∧ szs h1d = 13717 ∧ h1b.length = 134 := by decide +kernel
