theorem nd_len : ∀ (l : List Nat) (n : Nat), l.length ≤ n → nd l n = 0
  | [], n, _ => by cases n <;> rfl
  | _ :: l, 0, h => by simp at h
  | _ :: l, n + 1, h => nd_len l n (by simpa using h)
theorem cls_big {t : Nat} (h : 100 ≤ t) : cls t = 0 := nd_len clsL t (Nat.le_trans (by decide +kernel) h)
theorem cls3_all : (List.range 100).all (fun t => !decide (cls t = 3) || (decide (7 ≤ t) && decide (t ≤ 31))) = true := by decide +kernel
theorem cls7_all : (List.range 100).all (fun t => !decide (cls t = 7) || (decide (t = 6) || decide (t = 33))) = true := by decide +kernel
theorem cls3 {t : Nat} (h : cls t = 3) : 7 ≤ t ∧ t ≤ 31 := by
  have ht : t < 100 := by
    rcases Nat.lt_or_ge t 100 with q | q
    · exact q
    · rw [cls_big q] at h; omega
  have := List.all_eq_true.mp cls3_all t (List.mem_range.mpr ht)
  simp only [h, Bool.or_eq_true, Bool.and_eq_true, decide_eq_true_eq, Bool.not_eq_true'] at this
  rcases this with q | q
  · simp at q
  · exact q
theorem cls7 {t : Nat} (h : cls t = 7) : t = 6 ∨ t = 33 := by
  have ht : t < 100 := by
    rcases Nat.lt_or_ge t 100 with q | q
    · exact q
    · rw [cls_big q] at h; omega
  have := List.all_eq_true.mp cls7_all t (List.mem_range.mpr ht)
  simp only [h, Bool.or_eq_true, Bool.and_eq_true, decide_eq_true_eq, Bool.not_eq_true'] at this
  rcases this with q | q
  · simp at q
  · exact q
theorem rg_in {n j : Int} {f : Int → Int} (h : 0 ≤ j ∧ j < n) : rg n f j = f j := if_pos h
theorem rg_out {n j : Int} {f : Int → Int} (h : ¬ (0 ≤ j ∧ j < n)) : rg n f j = 0 := if_neg h
theorem us_in {n i j x : Int} {σ : SS} {t : Nat} (h : 0 ≤ j ∧ j < n) : us n σ t i j x = up σ t i j x := if_pos h
theorem us_out {n i j x : Int} {σ : SS} {t : Nat} (h : ¬ (0 ≤ j ∧ j < n)) : us n σ t i j x = σ := if_neg h
theorem rget_7 {d : Nat} {σ : SS} {i j : Int} : Rn (d + 1) 0 [vr 7 i, vi j] σ (vi (rg 40 (σ 37 i) j)) σ := G_rn rfl (b_0t7_0 ⟨fun h => ⟨by rw [rg_out (by omega)], rfl⟩, fun h => ⟨fun h2 => ⟨by rw [rg_out (by omega)], rfl⟩, fun h2 => ⟨⟨h, h2⟩, by rw [rg_in ⟨h, h2⟩], rfl⟩⟩⟩)
theorem rset_7 {d : Nat} {σ : SS} {i j x : Int} : Rn (d + 1) 1 [vr 7 i, vi j, vi x] σ vu (us 40 σ 37 i j x) := G_rn rfl (b_1t7_0 ⟨fun h => ⟨rfl, by rw [us_out (by omega)]⟩, fun h => ⟨fun h2 => ⟨rfl, by rw [us_out (by omega)]⟩, fun h2 => ⟨⟨h, h2⟩, fun σ1 e => ⟨rfl, by rw [e, us_in ⟨h, h2⟩]⟩⟩⟩⟩)
theorem rget_8 {d : Nat} {σ : SS} {i j : Int} : Rn (d + 1) 0 [vr 8 i, vi j] σ (vi (rg 40 (σ 38 i) j)) σ := G_rn rfl (b_0t8_0 ⟨fun h => ⟨by rw [rg_out (by omega)], rfl⟩, fun h => ⟨fun h2 => ⟨by rw [rg_out (by omega)], rfl⟩, fun h2 => ⟨⟨h, h2⟩, by rw [rg_in ⟨h, h2⟩], rfl⟩⟩⟩)
theorem rset_8 {d : Nat} {σ : SS} {i j x : Int} : Rn (d + 1) 1 [vr 8 i, vi j, vi x] σ vu (us 40 σ 38 i j x) := G_rn rfl (b_1t8_0 ⟨fun h => ⟨rfl, by rw [us_out (by omega)]⟩, fun h => ⟨fun h2 => ⟨rfl, by rw [us_out (by omega)]⟩, fun h2 => ⟨⟨h, h2⟩, fun σ1 e => ⟨rfl, by rw [e, us_in ⟨h, h2⟩]⟩⟩⟩⟩)
theorem rget_9 {d : Nat} {σ : SS} {i j : Int} : Rn (d + 1) 0 [vr 9 i, vi j] σ (vi (rg 40 (σ 39 i) j)) σ := G_rn rfl (b_0t9_0 ⟨fun h => ⟨by rw [rg_out (by omega)], rfl⟩, fun h => ⟨fun h2 => ⟨by rw [rg_out (by omega)], rfl⟩, fun h2 => ⟨⟨h, h2⟩, by rw [rg_in ⟨h, h2⟩], rfl⟩⟩⟩)
theorem rset_9 {d : Nat} {σ : SS} {i j x : Int} : Rn (d + 1) 1 [vr 9 i, vi j, vi x] σ vu (us 40 σ 39 i j x) := G_rn rfl (b_1t9_0 ⟨fun h => ⟨rfl, by rw [us_out (by omega)]⟩, fun h => ⟨fun h2 => ⟨rfl, by rw [us_out (by omega)]⟩, fun h2 => ⟨⟨h, h2⟩, fun σ1 e => ⟨rfl, by rw [e, us_in ⟨h, h2⟩]⟩⟩⟩⟩)
theorem rget_10 {d : Nat} {σ : SS} {i j : Int} : Rn (d + 1) 0 [vr 10 i, vi j] σ (vi (rg 40 (σ 40 i) j)) σ := G_rn rfl (b_0t10_0 ⟨fun h => ⟨by rw [rg_out (by omega)], rfl⟩, fun h => ⟨fun h2 => ⟨by rw [rg_out (by omega)], rfl⟩, fun h2 => ⟨⟨h, h2⟩, by rw [rg_in ⟨h, h2⟩], rfl⟩⟩⟩)
theorem rset_10 {d : Nat} {σ : SS} {i j x : Int} : Rn (d + 1) 1 [vr 10 i, vi j, vi x] σ vu (us 40 σ 40 i j x) := G_rn rfl (b_1t10_0 ⟨fun h => ⟨rfl, by rw [us_out (by omega)]⟩, fun h => ⟨fun h2 => ⟨rfl, by rw [us_out (by omega)]⟩, fun h2 => ⟨⟨h, h2⟩, fun σ1 e => ⟨rfl, by rw [e, us_in ⟨h, h2⟩]⟩⟩⟩⟩)
theorem rget_11 {d : Nat} {σ : SS} {i j : Int} : Rn (d + 1) 0 [vr 11 i, vi j] σ (vi (rg 120 (σ 41 i) j)) σ := G_rn rfl (b_0t11_0 ⟨fun h => ⟨by rw [rg_out (by omega)], rfl⟩, fun h => ⟨fun h2 => ⟨by rw [rg_out (by omega)], rfl⟩, fun h2 => ⟨⟨h, h2⟩, by rw [rg_in ⟨h, h2⟩], rfl⟩⟩⟩)
theorem rset_11 {d : Nat} {σ : SS} {i j x : Int} : Rn (d + 1) 1 [vr 11 i, vi j, vi x] σ vu (us 120 σ 41 i j x) := G_rn rfl (b_1t11_0 ⟨fun h => ⟨rfl, by rw [us_out (by omega)]⟩, fun h => ⟨fun h2 => ⟨rfl, by rw [us_out (by omega)]⟩, fun h2 => ⟨⟨h, h2⟩, fun σ1 e => ⟨rfl, by rw [e, us_in ⟨h, h2⟩]⟩⟩⟩⟩)
theorem rget_12 {d : Nat} {σ : SS} {i j : Int} : Rn (d + 1) 0 [vr 12 i, vi j] σ (vi (rg 40 (σ 42 i) j)) σ := G_rn rfl (b_0t12_0 ⟨fun h => ⟨by rw [rg_out (by omega)], rfl⟩, fun h => ⟨fun h2 => ⟨by rw [rg_out (by omega)], rfl⟩, fun h2 => ⟨⟨h, h2⟩, by rw [rg_in ⟨h, h2⟩], rfl⟩⟩⟩)
theorem rset_12 {d : Nat} {σ : SS} {i j x : Int} : Rn (d + 1) 1 [vr 12 i, vi j, vi x] σ vu (us 40 σ 42 i j x) := G_rn rfl (b_1t12_0 ⟨fun h => ⟨rfl, by rw [us_out (by omega)]⟩, fun h => ⟨fun h2 => ⟨rfl, by rw [us_out (by omega)]⟩, fun h2 => ⟨⟨h, h2⟩, fun σ1 e => ⟨rfl, by rw [e, us_in ⟨h, h2⟩]⟩⟩⟩⟩)
theorem rget_13 {d : Nat} {σ : SS} {i j : Int} : Rn (d + 1) 0 [vr 13 i, vi j] σ (vi (rg 40 (σ 43 i) j)) σ := G_rn rfl (b_0t13_0 ⟨fun h => ⟨by rw [rg_out (by omega)], rfl⟩, fun h => ⟨fun h2 => ⟨by rw [rg_out (by omega)], rfl⟩, fun h2 => ⟨⟨h, h2⟩, by rw [rg_in ⟨h, h2⟩], rfl⟩⟩⟩)
theorem rset_13 {d : Nat} {σ : SS} {i j x : Int} : Rn (d + 1) 1 [vr 13 i, vi j, vi x] σ vu (us 40 σ 43 i j x) := G_rn rfl (b_1t13_0 ⟨fun h => ⟨rfl, by rw [us_out (by omega)]⟩, fun h => ⟨fun h2 => ⟨rfl, by rw [us_out (by omega)]⟩, fun h2 => ⟨⟨h, h2⟩, fun σ1 e => ⟨rfl, by rw [e, us_in ⟨h, h2⟩]⟩⟩⟩⟩)
theorem rget_14 {d : Nat} {σ : SS} {i j : Int} : Rn (d + 1) 0 [vr 14 i, vi j] σ (vi (rg 40 (σ 44 i) j)) σ := G_rn rfl (b_0t14_0 ⟨fun h => ⟨by rw [rg_out (by omega)], rfl⟩, fun h => ⟨fun h2 => ⟨by rw [rg_out (by omega)], rfl⟩, fun h2 => ⟨⟨h, h2⟩, by rw [rg_in ⟨h, h2⟩], rfl⟩⟩⟩)
theorem rset_14 {d : Nat} {σ : SS} {i j x : Int} : Rn (d + 1) 1 [vr 14 i, vi j, vi x] σ vu (us 40 σ 44 i j x) := G_rn rfl (b_1t14_0 ⟨fun h => ⟨rfl, by rw [us_out (by omega)]⟩, fun h => ⟨fun h2 => ⟨rfl, by rw [us_out (by omega)]⟩, fun h2 => ⟨⟨h, h2⟩, fun σ1 e => ⟨rfl, by rw [e, us_in ⟨h, h2⟩]⟩⟩⟩⟩)
theorem rget_15 {d : Nat} {σ : SS} {i j : Int} : Rn (d + 1) 0 [vr 15 i, vi j] σ (vi (rg 40 (σ 45 i) j)) σ := G_rn rfl (b_0t15_0 ⟨fun h => ⟨by rw [rg_out (by omega)], rfl⟩, fun h => ⟨fun h2 => ⟨by rw [rg_out (by omega)], rfl⟩, fun h2 => ⟨⟨h, h2⟩, by rw [rg_in ⟨h, h2⟩], rfl⟩⟩⟩)
theorem rset_15 {d : Nat} {σ : SS} {i j x : Int} : Rn (d + 1) 1 [vr 15 i, vi j, vi x] σ vu (us 40 σ 45 i j x) := G_rn rfl (b_1t15_0 ⟨fun h => ⟨rfl, by rw [us_out (by omega)]⟩, fun h => ⟨fun h2 => ⟨rfl, by rw [us_out (by omega)]⟩, fun h2 => ⟨⟨h, h2⟩, fun σ1 e => ⟨rfl, by rw [e, us_in ⟨h, h2⟩]⟩⟩⟩⟩)
theorem rget_16 {d : Nat} {σ : SS} {i j : Int} : Rn (d + 1) 0 [vr 16 i, vi j] σ (vi (rg 42 (σ 46 i) j)) σ := G_rn rfl (b_0t16_0 ⟨fun h => ⟨by rw [rg_out (by omega)], rfl⟩, fun h => ⟨fun h2 => ⟨by rw [rg_out (by omega)], rfl⟩, fun h2 => ⟨⟨h, h2⟩, by rw [rg_in ⟨h, h2⟩], rfl⟩⟩⟩)
theorem rset_16 {d : Nat} {σ : SS} {i j x : Int} : Rn (d + 1) 1 [vr 16 i, vi j, vi x] σ vu (us 42 σ 46 i j x) := G_rn rfl (b_1t16_0 ⟨fun h => ⟨rfl, by rw [us_out (by omega)]⟩, fun h => ⟨fun h2 => ⟨rfl, by rw [us_out (by omega)]⟩, fun h2 => ⟨⟨h, h2⟩, fun σ1 e => ⟨rfl, by rw [e, us_in ⟨h, h2⟩]⟩⟩⟩⟩)
theorem rget_17 {d : Nat} {σ : SS} {i j : Int} : Rn (d + 1) 0 [vr 17 i, vi j] σ (vi (rg 40 (σ 47 i) j)) σ := G_rn rfl (b_0t17_0 ⟨fun h => ⟨by rw [rg_out (by omega)], rfl⟩, fun h => ⟨fun h2 => ⟨by rw [rg_out (by omega)], rfl⟩, fun h2 => ⟨⟨h, h2⟩, by rw [rg_in ⟨h, h2⟩], rfl⟩⟩⟩)
theorem rset_17 {d : Nat} {σ : SS} {i j x : Int} : Rn (d + 1) 1 [vr 17 i, vi j, vi x] σ vu (us 40 σ 47 i j x) := G_rn rfl (b_1t17_0 ⟨fun h => ⟨rfl, by rw [us_out (by omega)]⟩, fun h => ⟨fun h2 => ⟨rfl, by rw [us_out (by omega)]⟩, fun h2 => ⟨⟨h, h2⟩, fun σ1 e => ⟨rfl, by rw [e, us_in ⟨h, h2⟩]⟩⟩⟩⟩)
theorem rget_18 {d : Nat} {σ : SS} {i j : Int} : Rn (d + 1) 0 [vr 18 i, vi j] σ (vi (rg 40 (σ 48 i) j)) σ := G_rn rfl (b_0t18_0 ⟨fun h => ⟨by rw [rg_out (by omega)], rfl⟩, fun h => ⟨fun h2 => ⟨by rw [rg_out (by omega)], rfl⟩, fun h2 => ⟨⟨h, h2⟩, by rw [rg_in ⟨h, h2⟩], rfl⟩⟩⟩)
theorem rset_18 {d : Nat} {σ : SS} {i j x : Int} : Rn (d + 1) 1 [vr 18 i, vi j, vi x] σ vu (us 40 σ 48 i j x) := G_rn rfl (b_1t18_0 ⟨fun h => ⟨rfl, by rw [us_out (by omega)]⟩, fun h => ⟨fun h2 => ⟨rfl, by rw [us_out (by omega)]⟩, fun h2 => ⟨⟨h, h2⟩, fun σ1 e => ⟨rfl, by rw [e, us_in ⟨h, h2⟩]⟩⟩⟩⟩)
theorem rget_19 {d : Nat} {σ : SS} {i j : Int} : Rn (d + 1) 0 [vr 19 i, vi j] σ (vi (rg 42 (σ 49 i) j)) σ := G_rn rfl (b_0t19_0 ⟨fun h => ⟨by rw [rg_out (by omega)], rfl⟩, fun h => ⟨fun h2 => ⟨by rw [rg_out (by omega)], rfl⟩, fun h2 => ⟨⟨h, h2⟩, by rw [rg_in ⟨h, h2⟩], rfl⟩⟩⟩)
theorem rset_19 {d : Nat} {σ : SS} {i j x : Int} : Rn (d + 1) 1 [vr 19 i, vi j, vi x] σ vu (us 42 σ 49 i j x) := G_rn rfl (b_1t19_0 ⟨fun h => ⟨rfl, by rw [us_out (by omega)]⟩, fun h => ⟨fun h2 => ⟨rfl, by rw [us_out (by omega)]⟩, fun h2 => ⟨⟨h, h2⟩, fun σ1 e => ⟨rfl, by rw [e, us_in ⟨h, h2⟩]⟩⟩⟩⟩)
theorem rget_20 {d : Nat} {σ : SS} {i j : Int} : Rn (d + 1) 0 [vr 20 i, vi j] σ (vi (rg 520 (σ 50 i) j)) σ := G_rn rfl (b_0t20_0 ⟨fun h => ⟨by rw [rg_out (by omega)], rfl⟩, fun h => ⟨fun h2 => ⟨by rw [rg_out (by omega)], rfl⟩, fun h2 => ⟨⟨h, h2⟩, by rw [rg_in ⟨h, h2⟩], rfl⟩⟩⟩)
theorem rset_20 {d : Nat} {σ : SS} {i j x : Int} : Rn (d + 1) 1 [vr 20 i, vi j, vi x] σ vu (us 520 σ 50 i j x) := G_rn rfl (b_1t20_0 ⟨fun h => ⟨rfl, by rw [us_out (by omega)]⟩, fun h => ⟨fun h2 => ⟨rfl, by rw [us_out (by omega)]⟩, fun h2 => ⟨⟨h, h2⟩, fun σ1 e => ⟨rfl, by rw [e, us_in ⟨h, h2⟩]⟩⟩⟩⟩)
theorem rget_21 {d : Nat} {σ : SS} {i j : Int} : Rn (d + 1) 0 [vr 21 i, vi j] σ (vi (rg 520 (σ 51 i) j)) σ := G_rn rfl (b_0t21_0 ⟨fun h => ⟨by rw [rg_out (by omega)], rfl⟩, fun h => ⟨fun h2 => ⟨by rw [rg_out (by omega)], rfl⟩, fun h2 => ⟨⟨h, h2⟩, by rw [rg_in ⟨h, h2⟩], rfl⟩⟩⟩)
theorem rset_21 {d : Nat} {σ : SS} {i j x : Int} : Rn (d + 1) 1 [vr 21 i, vi j, vi x] σ vu (us 520 σ 51 i j x) := G_rn rfl (b_1t21_0 ⟨fun h => ⟨rfl, by rw [us_out (by omega)]⟩, fun h => ⟨fun h2 => ⟨rfl, by rw [us_out (by omega)]⟩, fun h2 => ⟨⟨h, h2⟩, fun σ1 e => ⟨rfl, by rw [e, us_in ⟨h, h2⟩]⟩⟩⟩⟩)
theorem rget_22 {d : Nat} {σ : SS} {i j : Int} : Rn (d + 1) 0 [vr 22 i, vi j] σ (vi (rg 520 (σ 52 i) j)) σ := G_rn rfl (b_0t22_0 ⟨fun h => ⟨by rw [rg_out (by omega)], rfl⟩, fun h => ⟨fun h2 => ⟨by rw [rg_out (by omega)], rfl⟩, fun h2 => ⟨⟨h, h2⟩, by rw [rg_in ⟨h, h2⟩], rfl⟩⟩⟩)
theorem rset_22 {d : Nat} {σ : SS} {i j x : Int} : Rn (d + 1) 1 [vr 22 i, vi j, vi x] σ vu (us 520 σ 52 i j x) := G_rn rfl (b_1t22_0 ⟨fun h => ⟨rfl, by rw [us_out (by omega)]⟩, fun h => ⟨fun h2 => ⟨rfl, by rw [us_out (by omega)]⟩, fun h2 => ⟨⟨h, h2⟩, fun σ1 e => ⟨rfl, by rw [e, us_in ⟨h, h2⟩]⟩⟩⟩⟩)
theorem rget_23 {d : Nat} {σ : SS} {i j : Int} : Rn (d + 1) 0 [vr 23 i, vi j] σ (vi (rg 520 (σ 53 i) j)) σ := G_rn rfl (b_0t23_0 ⟨fun h => ⟨by rw [rg_out (by omega)], rfl⟩, fun h => ⟨fun h2 => ⟨by rw [rg_out (by omega)], rfl⟩, fun h2 => ⟨⟨h, h2⟩, by rw [rg_in ⟨h, h2⟩], rfl⟩⟩⟩)
theorem rset_23 {d : Nat} {σ : SS} {i j x : Int} : Rn (d + 1) 1 [vr 23 i, vi j, vi x] σ vu (us 520 σ 53 i j x) := G_rn rfl (b_1t23_0 ⟨fun h => ⟨rfl, by rw [us_out (by omega)]⟩, fun h => ⟨fun h2 => ⟨rfl, by rw [us_out (by omega)]⟩, fun h2 => ⟨⟨h, h2⟩, fun σ1 e => ⟨rfl, by rw [e, us_in ⟨h, h2⟩]⟩⟩⟩⟩)
theorem rget_24 {d : Nat} {σ : SS} {i j : Int} : Rn (d + 1) 0 [vr 24 i, vi j] σ (vi (rg 13 (σ 54 i) j)) σ := G_rn rfl (b_0t24_0 ⟨fun h => ⟨by rw [rg_out (by omega)], rfl⟩, fun h => ⟨fun h2 => ⟨by rw [rg_out (by omega)], rfl⟩, fun h2 => ⟨⟨h, h2⟩, by rw [rg_in ⟨h, h2⟩], rfl⟩⟩⟩)
theorem rset_24 {d : Nat} {σ : SS} {i j x : Int} : Rn (d + 1) 1 [vr 24 i, vi j, vi x] σ vu (us 13 σ 54 i j x) := G_rn rfl (b_1t24_0 ⟨fun h => ⟨rfl, by rw [us_out (by omega)]⟩, fun h => ⟨fun h2 => ⟨rfl, by rw [us_out (by omega)]⟩, fun h2 => ⟨⟨h, h2⟩, fun σ1 e => ⟨rfl, by rw [e, us_in ⟨h, h2⟩]⟩⟩⟩⟩)
theorem rget_25 {d : Nat} {σ : SS} {i j : Int} : Rn (d + 1) 0 [vr 25 i, vi j] σ (vi (rg 13 (σ 55 i) j)) σ := G_rn rfl (b_0t25_0 ⟨fun h => ⟨by rw [rg_out (by omega)], rfl⟩, fun h => ⟨fun h2 => ⟨by rw [rg_out (by omega)], rfl⟩, fun h2 => ⟨⟨h, h2⟩, by rw [rg_in ⟨h, h2⟩], rfl⟩⟩⟩)
theorem rset_25 {d : Nat} {σ : SS} {i j x : Int} : Rn (d + 1) 1 [vr 25 i, vi j, vi x] σ vu (us 13 σ 55 i j x) := G_rn rfl (b_1t25_0 ⟨fun h => ⟨rfl, by rw [us_out (by omega)]⟩, fun h => ⟨fun h2 => ⟨rfl, by rw [us_out (by omega)]⟩, fun h2 => ⟨⟨h, h2⟩, fun σ1 e => ⟨rfl, by rw [e, us_in ⟨h, h2⟩]⟩⟩⟩⟩)
theorem rget_26 {d : Nat} {σ : SS} {i j : Int} : Rn (d + 1) 0 [vr 26 i, vi j] σ (vi (rg 520 (σ 56 i) j)) σ := G_rn rfl (b_0t26_0 ⟨fun h => ⟨by rw [rg_out (by omega)], rfl⟩, fun h => ⟨fun h2 => ⟨by rw [rg_out (by omega)], rfl⟩, fun h2 => ⟨⟨h, h2⟩, by rw [rg_in ⟨h, h2⟩], rfl⟩⟩⟩)
theorem rset_26 {d : Nat} {σ : SS} {i j x : Int} : Rn (d + 1) 1 [vr 26 i, vi j, vi x] σ vu (us 520 σ 56 i j x) := G_rn rfl (b_1t26_0 ⟨fun h => ⟨rfl, by rw [us_out (by omega)]⟩, fun h => ⟨fun h2 => ⟨rfl, by rw [us_out (by omega)]⟩, fun h2 => ⟨⟨h, h2⟩, fun σ1 e => ⟨rfl, by rw [e, us_in ⟨h, h2⟩]⟩⟩⟩⟩)
theorem rget_27 {d : Nat} {σ : SS} {i j : Int} : Rn (d + 1) 0 [vr 27 i, vi j] σ (vi (rg 546 (σ 57 i) j)) σ := G_rn rfl (b_0t27_0 ⟨fun h => ⟨by rw [rg_out (by omega)], rfl⟩, fun h => ⟨fun h2 => ⟨by rw [rg_out (by omega)], rfl⟩, fun h2 => ⟨⟨h, h2⟩, by rw [rg_in ⟨h, h2⟩], rfl⟩⟩⟩)
theorem rset_27 {d : Nat} {σ : SS} {i j x : Int} : Rn (d + 1) 1 [vr 27 i, vi j, vi x] σ vu (us 546 σ 57 i j x) := G_rn rfl (b_1t27_0 ⟨fun h => ⟨rfl, by rw [us_out (by omega)]⟩, fun h => ⟨fun h2 => ⟨rfl, by rw [us_out (by omega)]⟩, fun h2 => ⟨⟨h, h2⟩, fun σ1 e => ⟨rfl, by rw [e, us_in ⟨h, h2⟩]⟩⟩⟩⟩)
theorem rget_28 {d : Nat} {σ : SS} {i j : Int} : Rn (d + 1) 0 [vr 28 i, vi j] σ (vi (rg 300 (σ 58 i) j)) σ := G_rn rfl (b_0t28_0 ⟨fun h => ⟨by rw [rg_out (by omega)], rfl⟩, fun h => ⟨fun h2 => ⟨by rw [rg_out (by omega)], rfl⟩, fun h2 => ⟨⟨h, h2⟩, by rw [rg_in ⟨h, h2⟩], rfl⟩⟩⟩)
theorem rset_28 {d : Nat} {σ : SS} {i j x : Int} : Rn (d + 1) 1 [vr 28 i, vi j, vi x] σ vu (us 300 σ 58 i j x) := G_rn rfl (b_1t28_0 ⟨fun h => ⟨rfl, by rw [us_out (by omega)]⟩, fun h => ⟨fun h2 => ⟨rfl, by rw [us_out (by omega)]⟩, fun h2 => ⟨⟨h, h2⟩, fun σ1 e => ⟨rfl, by rw [e, us_in ⟨h, h2⟩]⟩⟩⟩⟩)
theorem rget_29 {d : Nat} {σ : SS} {i j : Int} : Rn (d + 1) 0 [vr 29 i, vi j] σ (vi (rg 546 (σ 59 i) j)) σ := G_rn rfl (b_0t29_0 ⟨fun h => ⟨by rw [rg_out (by omega)], rfl⟩, fun h => ⟨fun h2 => ⟨by rw [rg_out (by omega)], rfl⟩, fun h2 => ⟨⟨h, h2⟩, by rw [rg_in ⟨h, h2⟩], rfl⟩⟩⟩)
theorem rset_29 {d : Nat} {σ : SS} {i j x : Int} : Rn (d + 1) 1 [vr 29 i, vi j, vi x] σ vu (us 546 σ 59 i j x) := G_rn rfl (b_1t29_0 ⟨fun h => ⟨rfl, by rw [us_out (by omega)]⟩, fun h => ⟨fun h2 => ⟨rfl, by rw [us_out (by omega)]⟩, fun h2 => ⟨⟨h, h2⟩, fun σ1 e => ⟨rfl, by rw [e, us_in ⟨h, h2⟩]⟩⟩⟩⟩)
theorem rget_30 {d : Nat} {σ : SS} {i j : Int} : Rn (d + 1) 0 [vr 30 i, vi j] σ (vi (rg 546 (σ 60 i) j)) σ := G_rn rfl (b_0t30_0 ⟨fun h => ⟨by rw [rg_out (by omega)], rfl⟩, fun h => ⟨fun h2 => ⟨by rw [rg_out (by omega)], rfl⟩, fun h2 => ⟨⟨h, h2⟩, by rw [rg_in ⟨h, h2⟩], rfl⟩⟩⟩)
theorem rset_30 {d : Nat} {σ : SS} {i j x : Int} : Rn (d + 1) 1 [vr 30 i, vi j, vi x] σ vu (us 546 σ 60 i j x) := G_rn rfl (b_1t30_0 ⟨fun h => ⟨rfl, by rw [us_out (by omega)]⟩, fun h => ⟨fun h2 => ⟨rfl, by rw [us_out (by omega)]⟩, fun h2 => ⟨⟨h, h2⟩, fun σ1 e => ⟨rfl, by rw [e, us_in ⟨h, h2⟩]⟩⟩⟩⟩)
theorem rget_31 {d : Nat} {σ : SS} {i j : Int} : Rn (d + 1) 0 [vr 31 i, vi j] σ (vi (rg 40 (σ 61 i) j)) σ := G_rn rfl (b_0t31_0 ⟨fun h => ⟨by rw [rg_out (by omega)], rfl⟩, fun h => ⟨fun h2 => ⟨by rw [rg_out (by omega)], rfl⟩, fun h2 => ⟨⟨h, h2⟩, by rw [rg_in ⟨h, h2⟩], rfl⟩⟩⟩)
theorem rset_31 {d : Nat} {σ : SS} {i j x : Int} : Rn (d + 1) 1 [vr 31 i, vi j, vi x] σ vu (us 40 σ 61 i j x) := G_rn rfl (b_1t31_0 ⟨fun h => ⟨rfl, by rw [us_out (by omega)]⟩, fun h => ⟨fun h2 => ⟨rfl, by rw [us_out (by omega)]⟩, fun h2 => ⟨⟨h, h2⟩, fun σ1 e => ⟨rfl, by rw [e, us_in ⟨h, h2⟩]⟩⟩⟩⟩)
theorem rget_all {d : Nat} {σ : SS} {i j : Int} : ∀ t : Nat, 7 ≤ t → t ≤ 31 → Rn (d + 1) 0 [vr t i, vi j] σ (vi (rg (ndI alL (rf t 0)) (σ (rf t 0) i) j)) σ
  | 7, _, _ => rget_7
  | 8, _, _ => rget_8
  | 9, _, _ => rget_9
  | 10, _, _ => rget_10
  | 11, _, _ => rget_11
  | 12, _, _ => rget_12
  | 13, _, _ => rget_13
  | 14, _, _ => rget_14
  | 15, _, _ => rget_15
  | 16, _, _ => rget_16
  | 17, _, _ => rget_17
  | 18, _, _ => rget_18
  | 19, _, _ => rget_19
  | 20, _, _ => rget_20
  | 21, _, _ => rget_21
  | 22, _, _ => rget_22
  | 23, _, _ => rget_23
  | 24, _, _ => rget_24
  | 25, _, _ => rget_25
  | 26, _, _ => rget_26
  | 27, _, _ => rget_27
  | 28, _, _ => rget_28
  | 29, _, _ => rget_29
  | 30, _, _ => rget_30
  | 31, _, _ => rget_31
  | 0, h, _ => by omega
  | 1, h, _ => by omega
  | 2, h, _ => by omega
  | 3, h, _ => by omega
  | 4, h, _ => by omega
  | 5, h, _ => by omega
  | 6, h, _ => by omega
  | t + 32, _, h => by omega
theorem rset_all {d : Nat} {σ : SS} {i j x : Int} : ∀ t : Nat, 7 ≤ t → t ≤ 31 → Rn (d + 1) 1 [vr t i, vi j, vi x] σ vu (us (ndI alL (rf t 0)) σ (rf t 0) i j x)
  | 7, _, _ => rset_7
  | 8, _, _ => rset_8
  | 9, _, _ => rset_9
  | 10, _, _ => rset_10
  | 11, _, _ => rset_11
  | 12, _, _ => rset_12
  | 13, _, _ => rset_13
  | 14, _, _ => rset_14
  | 15, _, _ => rset_15
  | 16, _, _ => rset_16
  | 17, _, _ => rset_17
  | 18, _, _ => rset_18
  | 19, _, _ => rset_19
  | 20, _, _ => rset_20
  | 21, _, _ => rset_21
  | 22, _, _ => rset_22
  | 23, _, _ => rset_23
  | 24, _, _ => rset_24
  | 25, _, _ => rset_25
  | 26, _, _ => rset_26
  | 27, _, _ => rset_27
  | 28, _, _ => rset_28
  | 29, _, _ => rset_29
  | 30, _, _ => rset_30
  | 31, _, _ => rset_31
  | 0, h, _ => by omega
  | 1, h, _ => by omega
  | 2, h, _ => by omega
  | 3, h, _ => by omega
  | 4, h, _ => by omega
  | 5, h, _ => by omega
  | 6, h, _ => by omega
  | t + 32, _, h => by omega
theorem s_3 {d : Nat} {σ : SS} {n lo hi : Int} : Rn (d + 1) 3 [vi n, vi lo, vi hi] σ (vi (if lo ≤ n ∧ n ≤ hi then 1 else 0)) σ := G_rn rfl (b_3_0 ⟨fun h => ⟨Or.inl rfl, by rw [if_neg (by omega)], rfl⟩, fun h => ⟨fun h2 => ⟨Or.inl rfl, by rw [if_neg (by omega)], rfl⟩, fun h2 => ⟨Or.inr rfl, by rw [if_pos ⟨h, h2⟩], rfl⟩⟩⟩)
theorem s_9 {d : Nat} {σ : SS} {n lo hi : Int} : Rn (d + 1) 9 [vi n, vi lo, vi hi] σ (vi (if lo ≤ n ∧ n ≤ hi then 1 else 0)) σ := G_rn rfl (b_9_0 ⟨fun h => ⟨Or.inl rfl, by rw [if_neg (by omega)], rfl⟩, fun h => ⟨fun h2 => ⟨Or.inl rfl, by rw [if_neg (by omega)], rfl⟩, fun h2 => ⟨Or.inr rfl, by rw [if_pos ⟨h, h2⟩], rfl⟩⟩⟩)
theorem s_6 {d : Nat} {σ : SS} {s : Int} : Rn (d + 1) 6 [vi s] σ (vi (if s = 108 ∨ s = 64 then 1 else 0)) σ := G_rn rfl (b_6_0 ⟨fun h => ⟨Or.inr rfl, by rw [if_pos (Or.inl h)], rfl⟩, fun h => ⟨fun h2 => ⟨Or.inl rfl, by rw [if_neg (by omega)], rfl⟩, fun h2 => ⟨Or.inr rfl, by rw [if_pos (Or.inr h2)], rfl⟩⟩⟩)
theorem s_12 {d : Nat} {σ : SS} {k : Int} : Rn (d + 1) 12 [vi k] σ (vi (inn k)) σ := G_rn rfl (b_12_0 (by
  unfold inn
  refine ⟨fun h => ⟨fun h2 => ?_, fun h2 => ⟨fun h3 => ⟨fun h4 => ?_, fun h4 => ?_⟩, fun h3 => ?_⟩⟩, fun h => ?_⟩
  · rw [if_neg (by omega), if_pos (Or.inl h2)]; exact ⟨rfl, rfl⟩
  · rw [if_neg (by omega), if_neg (by omega), if_neg h4]; exact ⟨rfl, rfl⟩
  · rw [if_neg (by omega), if_neg (by omega), if_pos h4]; exact ⟨rfl, rfl⟩
  · rw [if_neg (by omega), if_pos (Or.inr h3)]; exact ⟨rfl, rfl⟩
  · rw [if_pos h]; exact ⟨rfl, rfl⟩))
theorem s_13 {d : Nat} {σ : SS} {b a : Int} (h : ir (42 * b) ∧ ir (42 * b + a) ∧ ir (40 * b) ∧ ir (42 * b + a - 40 * b)) : Rn (d + 1) 13 [vr 62 0, vi b, vi a] σ (vi (42 * b + a - 40 * b)) σ := G_rn rfl (b_13_0 ⟨h.1, h.2.1, h.2.2.1, h.2.2.2, rfl, rfl⟩)
theorem s_14 {d : Nat} {σ : SS} {a : Int} (h : ir (a + 1) ∧ (0 ≤ a + 1 ∧ a + 1 < 120) ∧ ir (σ 66 0 (a + 1) - 48)) : Rn (d + 1) 14 [vr 62 0, vi a] σ (vi (σ 66 0 (a + 1) - 48)) σ := G_rn rfl (b_14_0 ⟨h.1, h.2.1, h.2.2, rfl, rfl⟩)
theorem s_16 {d : Nat} {σ : SS} {b p : Int} : Rn (d + 1) 16 [vr 6 b, vi p] σ (vi (if 0 ≤ p ∧ p < σ 6 b 1 then 1 else 0)) σ := G_rn rfl (b_16_0 ⟨fun h => ⟨Or.inl rfl, by rw [if_neg (by omega)], rfl⟩, fun h => ⟨fun h2 => ⟨Or.inl rfl, by rw [if_neg (by omega)], rfl⟩, fun h2 => ⟨Or.inr rfl, by rw [if_pos ⟨h, h2⟩], rfl⟩⟩⟩)
theorem s_16k {d : Nat} {σ : SS} {b p : Int} : Rn (d + 1) 16 [vr 33 b, vi p] σ (vi (if 0 ≤ p ∧ p < σ 33 b 1 then 1 else 0)) σ := G_rn rfl (b_16k_0 ⟨fun h => ⟨Or.inl rfl, by rw [if_neg (by omega)], rfl⟩, fun h => ⟨fun h2 => ⟨Or.inl rfl, by rw [if_neg (by omega)], rfl⟩, fun h2 => ⟨Or.inr rfl, by rw [if_pos ⟨h, h2⟩], rfl⟩⟩⟩)
theorem s_17 {d : Nat} {σ : SS} {b : Int} (h : ir (10 * σ 6 b 2) ∧ ir (10 * σ 6 b 2 + σ 6 b 3)) : Rn (d + 1) 17 [vr 6 b] σ (vi (10 * σ 6 b 2 + σ 6 b 3)) σ := G_rn rfl (b_17_0 ⟨h.1, h.2, rfl, rfl⟩)
theorem s_17k {d : Nat} {σ : SS} {b : Int} (h : ir (10 * σ 33 b 2) ∧ ir (10 * σ 33 b 2 + σ 33 b 3)) : Rn (d + 1) 17 [vr 33 b] σ (vi (10 * σ 33 b 2 + σ 33 b 3)) σ := G_rn rfl (b_17k_0 ⟨h.1, h.2, rfl, rfl⟩)
theorem bif_s {α : Type} {q : Bool} {A B : α} (h : (bif q then some A else none) = some B) : q = true ∧ A = B := by cases q <;> simp_all
theorem shp1 {y : Nat} {x : Int} (h : rt y = some .int ∨ rt y = some .boolean) : ∀ k, chkK.chkR (rt y) k = true → shp k (vi x) := by
  intro k hk
  rcases k with _ | _ | k
  · rcases h with h | h <;> rw [h] at hk <;> cases hk
  · exact ⟨x, rfl⟩
  · rcases h with h | h <;> rw [h] at hk <;> cases hk
theorem shp0 {y : Nat} (h : rt y = none) : ∀ k, chkK.chkR (rt y) k = true → shp k vu := by
  intro k hk
  rcases k with _ | k
  · rfl
  · rw [h] at hk; cases hk
theorem S1_ok (d : Nat) : SV (d + 1) S1 := by
  intro y as σ o v σ' h hq
  unfold S1 at h
  split at h
  · obtain ⟨h1, h2⟩ := bif_s h
    cases h2
    obtain ⟨g1, g2⟩ := cls3 (beq_t h1)
    exact ⟨rget_all _ g1 g2, shp1 (Or.inl rfl)⟩
  · obtain ⟨h1, h2⟩ := bif_s h
    cases h2
    obtain ⟨g1, g2⟩ := cls3 (beq_t h1)
    exact ⟨rset_all _ g1 g2, shp0 rfl⟩
  · cases h; exact ⟨s_3, shp1 (Or.inr rfl)⟩
  · cases h; exact ⟨s_9, shp1 (Or.inr rfl)⟩
  · cases h; exact ⟨s_6, shp1 (Or.inr rfl)⟩
  · cases h; exact ⟨s_12, shp1 (Or.inl rfl)⟩
  · cases h; exact ⟨s_13 (hq _ rfl), shp1 (Or.inl rfl)⟩
  · cases h; exact ⟨s_14 (hq _ rfl), shp1 (Or.inl rfl)⟩
  · obtain ⟨h1, h2⟩ := bif_s h
    cases h2
    rcases cls7 (beq_t h1) with rfl | rfl
    · exact ⟨s_16, shp1 (Or.inr rfl)⟩
    · exact ⟨s_16k, shp1 (Or.inr rfl)⟩
  · obtain ⟨h1, h2⟩ := bif_s h
    cases h2
    rcases cls7 (beq_t h1) with rfl | rfl
    · exact ⟨s_17 (hq _ rfl), shp1 (Or.inl rfl)⟩
    · exact ⟨s_17k (hq _ rfl), shp1 (Or.inl rfl)⟩
  · cases h
