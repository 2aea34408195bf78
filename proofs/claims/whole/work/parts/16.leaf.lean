/-- RegionStack.isWithin at 0, 3 leaves -/
theorem b_3_0 {d : Nat} {P : AV → SS → Prop} {σ : SS} {l0 l1 l2 : Int} (h : ((l0 < l1 → (((0 : Int) = 0 ∨ (0 : Int) = 1) ∧ P (vi (0 : Int)) σ)) ∧ (l1 ≤ l0 → ((l2 < l0 → (((0 : Int) = 0 ∨ (0 : Int) = 1) ∧ P (vi (0 : Int)) σ)) ∧ (l0 ≤ l2 → (((1 : Int) = 0 ∨ (1 : Int) = 1) ∧ P (vi (1 : Int)) σ)))))) : G (d + 0) P 3 0 [vi l0, vi l1, vi l2] [] σ := blk (S := noS) (c := cd_3) (bz := true) [] 600 (SV_no _) rfl rfl rfl h
/-- RegionStackModel.in at 0, 3 leaves -/
theorem b_9_0 {d : Nat} {P : AV → SS → Prop} {σ : SS} {l0 l1 l2 : Int} (h : ((l0 < l1 → (((0 : Int) = 0 ∨ (0 : Int) = 1) ∧ P (vi (0 : Int)) σ)) ∧ (l1 ≤ l0 → ((l2 < l0 → (((0 : Int) = 0 ∨ (0 : Int) = 1) ∧ P (vi (0 : Int)) σ)) ∧ (l0 ≤ l2 → (((1 : Int) = 0 ∨ (1 : Int) = 1) ∧ P (vi (1 : Int)) σ)))))) : G (d + 0) P 9 0 [vi l0, vi l1, vi l2] [] σ := blk (S := noS) (c := cd_9) (bz := true) [] 600 (SV_no _) rfl rfl rfl h
/-- RegionStack.bearsName at 0, 3 leaves -/
theorem b_6_0 {d : Nat} {P : AV → SS → Prop} {σ : SS} {l0 : Int} (h : ((l0 = (108 : Int) → (((1 : Int) = 0 ∨ (1 : Int) = 1) ∧ P (vi (1 : Int)) σ)) ∧ (l0 ≠ (108 : Int) → ((l0 ≠ (64 : Int) → (((0 : Int) = 0 ∨ (0 : Int) = 1) ∧ P (vi (0 : Int)) σ)) ∧ (l0 = (64 : Int) → (((1 : Int) = 0 ∨ (1 : Int) = 1) ∧ P (vi (1 : Int)) σ)))))) : G (d + 0) P 6 0 [vi l0] [] σ := blk (S := noS) (c := cd_6) (bz := true) [] 600 (SV_no _) rfl rfl rfl h
/-- RegionStackModel.inner at 0, 5 leaves -/
theorem b_12_0 {d : Nat} {P : AV → SS → Prop} {σ : SS} {l0 : Int} (h : (((3 : Int) ≤ l0 → ((l0 < (6 : Int) → P (vi (1 : Int)) σ) ∧ ((6 : Int) ≤ l0 → ((l0 ≠ (9 : Int) → ((l0 ≠ (7 : Int) → P (vi (2 : Int)) σ) ∧ (l0 = (7 : Int) → P (vi (3 : Int)) σ))) ∧ (l0 = (9 : Int) → P (vi (1 : Int)) σ))))) ∧ (l0 < (3 : Int) → P (vi (0 : Int)) σ))) : G (d + 0) P 12 0 [vi l0] [] σ := blk (S := noS) (c := cd_12) (bz := false) [] 600 (SV_no _) rfl rfl rfl h
/-- RegionStackModel.nodeOf at 0, 1 leaves -/
theorem b_13_0 {d : Nat} {P : AV → SS → Prop} {σ : SS} {l1 l2 : Int} (h : (ir ((42 : Int) * l1) ∧ (ir (((42 : Int) * l1) + l2) ∧ (ir ((40 : Int) * l1) ∧ (ir ((((42 : Int) * l1) + l2) - ((40 : Int) * l1)) ∧ P (vi ((((42 : Int) * l1) + l2) - ((40 : Int) * l1))) σ))))) : G (d + 0) P 13 0 [vr 62 0, vi l1, vi l2] [] σ := blk (S := noS) (c := cd_13) (bz := false) [] 600 (SV_no _) rfl rfl rfl h
/-- RegionStackModel.bodyOfCall at 0, 1 leaves -/
theorem b_14_0 {d : Nat} {P : AV → SS → Prop} {σ : SS} {l1 : Int} (h : (ir (l1 + 1) ∧ ((0 ≤ (l1 + 1) ∧ (l1 + 1) < 120) ∧ (ir ((σ 66 0 (l1 + 1)) - 48) ∧ P (vi ((σ 66 0 (l1 + 1)) - 48)) σ)))) : G (d + 0) P 14 0 [vr 62 0, vi l1] [] σ := blk (S := noS) (c := cd_14) (bz := false) [] 600 (SV_no _) rfl rfl rfl h
/-- RegionStack$Text.hasPlace at 0, 3 leaves -/
theorem b_16_0 {d : Nat} {P : AV → SS → Prop} {σ : SS} {b l1 : Int} (h : ((l1 < 0 → (((0 : Int) = 0 ∨ (0 : Int) = 1) ∧ P (vi (0 : Int)) σ)) ∧ (0 ≤ l1 → (((σ 6 b 1) ≤ l1 → (((0 : Int) = 0 ∨ (0 : Int) = 1) ∧ P (vi (0 : Int)) σ)) ∧ (l1 < (σ 6 b 1) → (((1 : Int) = 0 ∨ (1 : Int) = 1) ∧ P (vi (1 : Int)) σ)))))) : G (d + 0) P 16 0 [vr 6 b, vi l1] [] σ := blk (S := noS) (c := cd_16) (bz := true) [] 600 (SV_no _) rfl rfl rfl h
/-- RegionStack$Text.hasPlace at 0, 3 leaves -/
theorem b_16k_0 {d : Nat} {P : AV → SS → Prop} {σ : SS} {b l1 : Int} (h : ((l1 < 0 → (((0 : Int) = 0 ∨ (0 : Int) = 1) ∧ P (vi (0 : Int)) σ)) ∧ (0 ≤ l1 → (((σ 33 b 1) ≤ l1 → (((0 : Int) = 0 ∨ (0 : Int) = 1) ∧ P (vi (0 : Int)) σ)) ∧ (l1 < (σ 33 b 1) → (((1 : Int) = 0 ∨ (1 : Int) = 1) ∧ P (vi (1 : Int)) σ)))))) : G (d + 0) P 16 0 [vr 33 b, vi l1] [] σ := blk (S := noS) (c := cd_16) (bz := true) [] 600 (SV_no _) rfl rfl rfl h
/-- RegionStack$Text.bothKinds at 0, 1 leaves -/
theorem b_17_0 {d : Nat} {P : AV → SS → Prop} {σ : SS} {b : Int} (h : (ir ((10 : Int) * (σ 6 b 2)) ∧ (ir (((10 : Int) * (σ 6 b 2)) + (σ 6 b 3)) ∧ P (vi (((10 : Int) * (σ 6 b 2)) + (σ 6 b 3))) σ))) : G (d + 0) P 17 0 [vr 6 b] [] σ := blk (S := noS) (c := cd_17) (bz := false) [] 600 (SV_no _) rfl rfl rfl h
/-- RegionStack$Text.bothKinds at 0, 1 leaves -/
theorem b_17k_0 {d : Nat} {P : AV → SS → Prop} {σ : SS} {b : Int} (h : (ir ((10 : Int) * (σ 33 b 2)) ∧ (ir (((10 : Int) * (σ 33 b 2)) + (σ 33 b 3)) ∧ P (vi (((10 : Int) * (σ 33 b 2)) + (σ 33 b 3))) σ))) : G (d + 0) P 17 0 [vr 33 b] [] σ := blk (S := noS) (c := cd_17) (bz := false) [] 600 (SV_no _) rfl rfl rfl h
/-- RegionStack$Row.get at 0, 3 leaves -/
theorem b_0t7_0 {d : Nat} {P : AV → SS → Prop} {σ : SS} {b l1 : Int} (h : ((l1 < 0 → P (vi (0 : Int)) σ) ∧ (0 ≤ l1 → (((40 : Int) ≤ l1 → P (vi (0 : Int)) σ) ∧ (l1 < (40 : Int) → ((0 ≤ l1 ∧ l1 < 40) ∧ P (vi (σ 37 b l1)) σ)))))) : G (d + 0) P 0 0 [vr 7 b, vi l1] [] σ := blk (S := noS) (c := cd_0) (bz := false) [] 600 (SV_no _) rfl rfl rfl h
/-- RegionStack$Row.set at 0, 3 leaves -/
theorem b_1t7_0 {d : Nat} {P : AV → SS → Prop} {σ : SS} {b l1 l2 : Int} (h : ((l1 < 0 → P vu σ) ∧ (0 ≤ l1 → (((40 : Int) ≤ l1 → P vu σ) ∧ (l1 < (40 : Int) → ((0 ≤ l1 ∧ l1 < 40) ∧ (∀ σ1 : SS, σ1 = up σ 37 b l1 l2 → P vu σ1))))))) : G (d + 0) P 1 0 [vr 7 b, vi l1, vi l2] [] σ := blk (S := noS) (c := cd_1) (bz := false) [] 600 (SV_no _) rfl rfl rfl h
/-- RegionStack$Row.get at 0, 3 leaves -/
theorem b_0t8_0 {d : Nat} {P : AV → SS → Prop} {σ : SS} {b l1 : Int} (h : ((l1 < 0 → P (vi (0 : Int)) σ) ∧ (0 ≤ l1 → (((40 : Int) ≤ l1 → P (vi (0 : Int)) σ) ∧ (l1 < (40 : Int) → ((0 ≤ l1 ∧ l1 < 40) ∧ P (vi (σ 38 b l1)) σ)))))) : G (d + 0) P 0 0 [vr 8 b, vi l1] [] σ := blk (S := noS) (c := cd_0) (bz := false) [] 600 (SV_no _) rfl rfl rfl h
/-- RegionStack$Row.set at 0, 3 leaves -/
theorem b_1t8_0 {d : Nat} {P : AV → SS → Prop} {σ : SS} {b l1 l2 : Int} (h : ((l1 < 0 → P vu σ) ∧ (0 ≤ l1 → (((40 : Int) ≤ l1 → P vu σ) ∧ (l1 < (40 : Int) → ((0 ≤ l1 ∧ l1 < 40) ∧ (∀ σ1 : SS, σ1 = up σ 38 b l1 l2 → P vu σ1))))))) : G (d + 0) P 1 0 [vr 8 b, vi l1, vi l2] [] σ := blk (S := noS) (c := cd_1) (bz := false) [] 600 (SV_no _) rfl rfl rfl h
/-- RegionStack$Row.get at 0, 3 leaves -/
theorem b_0t9_0 {d : Nat} {P : AV → SS → Prop} {σ : SS} {b l1 : Int} (h : ((l1 < 0 → P (vi (0 : Int)) σ) ∧ (0 ≤ l1 → (((40 : Int) ≤ l1 → P (vi (0 : Int)) σ) ∧ (l1 < (40 : Int) → ((0 ≤ l1 ∧ l1 < 40) ∧ P (vi (σ 39 b l1)) σ)))))) : G (d + 0) P 0 0 [vr 9 b, vi l1] [] σ := blk (S := noS) (c := cd_0) (bz := false) [] 600 (SV_no _) rfl rfl rfl h
/-- RegionStack$Row.set at 0, 3 leaves -/
theorem b_1t9_0 {d : Nat} {P : AV → SS → Prop} {σ : SS} {b l1 l2 : Int} (h : ((l1 < 0 → P vu σ) ∧ (0 ≤ l1 → (((40 : Int) ≤ l1 → P vu σ) ∧ (l1 < (40 : Int) → ((0 ≤ l1 ∧ l1 < 40) ∧ (∀ σ1 : SS, σ1 = up σ 39 b l1 l2 → P vu σ1))))))) : G (d + 0) P 1 0 [vr 9 b, vi l1, vi l2] [] σ := blk (S := noS) (c := cd_1) (bz := false) [] 600 (SV_no _) rfl rfl rfl h
/-- RegionStack$Row.get at 0, 3 leaves -/
theorem b_0t10_0 {d : Nat} {P : AV → SS → Prop} {σ : SS} {b l1 : Int} (h : ((l1 < 0 → P (vi (0 : Int)) σ) ∧ (0 ≤ l1 → (((40 : Int) ≤ l1 → P (vi (0 : Int)) σ) ∧ (l1 < (40 : Int) → ((0 ≤ l1 ∧ l1 < 40) ∧ P (vi (σ 40 b l1)) σ)))))) : G (d + 0) P 0 0 [vr 10 b, vi l1] [] σ := blk (S := noS) (c := cd_0) (bz := false) [] 600 (SV_no _) rfl rfl rfl h
/-- RegionStack$Row.set at 0, 3 leaves -/
theorem b_1t10_0 {d : Nat} {P : AV → SS → Prop} {σ : SS} {b l1 l2 : Int} (h : ((l1 < 0 → P vu σ) ∧ (0 ≤ l1 → (((40 : Int) ≤ l1 → P vu σ) ∧ (l1 < (40 : Int) → ((0 ≤ l1 ∧ l1 < 40) ∧ (∀ σ1 : SS, σ1 = up σ 40 b l1 l2 → P vu σ1))))))) : G (d + 0) P 1 0 [vr 10 b, vi l1, vi l2] [] σ := blk (S := noS) (c := cd_1) (bz := false) [] 600 (SV_no _) rfl rfl rfl h
/-- RegionStack$Row.get at 0, 3 leaves -/
theorem b_0t11_0 {d : Nat} {P : AV → SS → Prop} {σ : SS} {b l1 : Int} (h : ((l1 < 0 → P (vi (0 : Int)) σ) ∧ (0 ≤ l1 → (((120 : Int) ≤ l1 → P (vi (0 : Int)) σ) ∧ (l1 < (120 : Int) → ((0 ≤ l1 ∧ l1 < 120) ∧ P (vi (σ 41 b l1)) σ)))))) : G (d + 0) P 0 0 [vr 11 b, vi l1] [] σ := blk (S := noS) (c := cd_0) (bz := false) [] 600 (SV_no _) rfl rfl rfl h
/-- RegionStack$Row.set at 0, 3 leaves -/
theorem b_1t11_0 {d : Nat} {P : AV → SS → Prop} {σ : SS} {b l1 l2 : Int} (h : ((l1 < 0 → P vu σ) ∧ (0 ≤ l1 → (((120 : Int) ≤ l1 → P vu σ) ∧ (l1 < (120 : Int) → ((0 ≤ l1 ∧ l1 < 120) ∧ (∀ σ1 : SS, σ1 = up σ 41 b l1 l2 → P vu σ1))))))) : G (d + 0) P 1 0 [vr 11 b, vi l1, vi l2] [] σ := blk (S := noS) (c := cd_1) (bz := false) [] 600 (SV_no _) rfl rfl rfl h
/-- RegionStack$Row.get at 0, 3 leaves -/
theorem b_0t12_0 {d : Nat} {P : AV → SS → Prop} {σ : SS} {b l1 : Int} (h : ((l1 < 0 → P (vi (0 : Int)) σ) ∧ (0 ≤ l1 → (((40 : Int) ≤ l1 → P (vi (0 : Int)) σ) ∧ (l1 < (40 : Int) → ((0 ≤ l1 ∧ l1 < 40) ∧ P (vi (σ 42 b l1)) σ)))))) : G (d + 0) P 0 0 [vr 12 b, vi l1] [] σ := blk (S := noS) (c := cd_0) (bz := false) [] 600 (SV_no _) rfl rfl rfl h
/-- RegionStack$Row.set at 0, 3 leaves -/
theorem b_1t12_0 {d : Nat} {P : AV → SS → Prop} {σ : SS} {b l1 l2 : Int} (h : ((l1 < 0 → P vu σ) ∧ (0 ≤ l1 → (((40 : Int) ≤ l1 → P vu σ) ∧ (l1 < (40 : Int) → ((0 ≤ l1 ∧ l1 < 40) ∧ (∀ σ1 : SS, σ1 = up σ 42 b l1 l2 → P vu σ1))))))) : G (d + 0) P 1 0 [vr 12 b, vi l1, vi l2] [] σ := blk (S := noS) (c := cd_1) (bz := false) [] 600 (SV_no _) rfl rfl rfl h
/-- RegionStack$Row.get at 0, 3 leaves -/
theorem b_0t13_0 {d : Nat} {P : AV → SS → Prop} {σ : SS} {b l1 : Int} (h : ((l1 < 0 → P (vi (0 : Int)) σ) ∧ (0 ≤ l1 → (((40 : Int) ≤ l1 → P (vi (0 : Int)) σ) ∧ (l1 < (40 : Int) → ((0 ≤ l1 ∧ l1 < 40) ∧ P (vi (σ 43 b l1)) σ)))))) : G (d + 0) P 0 0 [vr 13 b, vi l1] [] σ := blk (S := noS) (c := cd_0) (bz := false) [] 600 (SV_no _) rfl rfl rfl h
/-- RegionStack$Row.set at 0, 3 leaves -/
theorem b_1t13_0 {d : Nat} {P : AV → SS → Prop} {σ : SS} {b l1 l2 : Int} (h : ((l1 < 0 → P vu σ) ∧ (0 ≤ l1 → (((40 : Int) ≤ l1 → P vu σ) ∧ (l1 < (40 : Int) → ((0 ≤ l1 ∧ l1 < 40) ∧ (∀ σ1 : SS, σ1 = up σ 43 b l1 l2 → P vu σ1))))))) : G (d + 0) P 1 0 [vr 13 b, vi l1, vi l2] [] σ := blk (S := noS) (c := cd_1) (bz := false) [] 600 (SV_no _) rfl rfl rfl h
/-- RegionStack$Row.get at 0, 3 leaves -/
theorem b_0t14_0 {d : Nat} {P : AV → SS → Prop} {σ : SS} {b l1 : Int} (h : ((l1 < 0 → P (vi (0 : Int)) σ) ∧ (0 ≤ l1 → (((40 : Int) ≤ l1 → P (vi (0 : Int)) σ) ∧ (l1 < (40 : Int) → ((0 ≤ l1 ∧ l1 < 40) ∧ P (vi (σ 44 b l1)) σ)))))) : G (d + 0) P 0 0 [vr 14 b, vi l1] [] σ := blk (S := noS) (c := cd_0) (bz := false) [] 600 (SV_no _) rfl rfl rfl h
/-- RegionStack$Row.set at 0, 3 leaves -/
theorem b_1t14_0 {d : Nat} {P : AV → SS → Prop} {σ : SS} {b l1 l2 : Int} (h : ((l1 < 0 → P vu σ) ∧ (0 ≤ l1 → (((40 : Int) ≤ l1 → P vu σ) ∧ (l1 < (40 : Int) → ((0 ≤ l1 ∧ l1 < 40) ∧ (∀ σ1 : SS, σ1 = up σ 44 b l1 l2 → P vu σ1))))))) : G (d + 0) P 1 0 [vr 14 b, vi l1, vi l2] [] σ := blk (S := noS) (c := cd_1) (bz := false) [] 600 (SV_no _) rfl rfl rfl h
/-- RegionStack$Row.get at 0, 3 leaves -/
theorem b_0t15_0 {d : Nat} {P : AV → SS → Prop} {σ : SS} {b l1 : Int} (h : ((l1 < 0 → P (vi (0 : Int)) σ) ∧ (0 ≤ l1 → (((40 : Int) ≤ l1 → P (vi (0 : Int)) σ) ∧ (l1 < (40 : Int) → ((0 ≤ l1 ∧ l1 < 40) ∧ P (vi (σ 45 b l1)) σ)))))) : G (d + 0) P 0 0 [vr 15 b, vi l1] [] σ := blk (S := noS) (c := cd_0) (bz := false) [] 600 (SV_no _) rfl rfl rfl h
/-- RegionStack$Row.set at 0, 3 leaves -/
theorem b_1t15_0 {d : Nat} {P : AV → SS → Prop} {σ : SS} {b l1 l2 : Int} (h : ((l1 < 0 → P vu σ) ∧ (0 ≤ l1 → (((40 : Int) ≤ l1 → P vu σ) ∧ (l1 < (40 : Int) → ((0 ≤ l1 ∧ l1 < 40) ∧ (∀ σ1 : SS, σ1 = up σ 45 b l1 l2 → P vu σ1))))))) : G (d + 0) P 1 0 [vr 15 b, vi l1, vi l2] [] σ := blk (S := noS) (c := cd_1) (bz := false) [] 600 (SV_no _) rfl rfl rfl h
/-- RegionStack$Row.get at 0, 3 leaves -/
theorem b_0t16_0 {d : Nat} {P : AV → SS → Prop} {σ : SS} {b l1 : Int} (h : ((l1 < 0 → P (vi (0 : Int)) σ) ∧ (0 ≤ l1 → (((42 : Int) ≤ l1 → P (vi (0 : Int)) σ) ∧ (l1 < (42 : Int) → ((0 ≤ l1 ∧ l1 < 42) ∧ P (vi (σ 46 b l1)) σ)))))) : G (d + 0) P 0 0 [vr 16 b, vi l1] [] σ := blk (S := noS) (c := cd_0) (bz := false) [] 600 (SV_no _) rfl rfl rfl h
/-- RegionStack$Row.set at 0, 3 leaves -/
theorem b_1t16_0 {d : Nat} {P : AV → SS → Prop} {σ : SS} {b l1 l2 : Int} (h : ((l1 < 0 → P vu σ) ∧ (0 ≤ l1 → (((42 : Int) ≤ l1 → P vu σ) ∧ (l1 < (42 : Int) → ((0 ≤ l1 ∧ l1 < 42) ∧ (∀ σ1 : SS, σ1 = up σ 46 b l1 l2 → P vu σ1))))))) : G (d + 0) P 1 0 [vr 16 b, vi l1, vi l2] [] σ := blk (S := noS) (c := cd_1) (bz := false) [] 600 (SV_no _) rfl rfl rfl h
/-- RegionStack$Row.get at 0, 3 leaves -/
theorem b_0t17_0 {d : Nat} {P : AV → SS → Prop} {σ : SS} {b l1 : Int} (h : ((l1 < 0 → P (vi (0 : Int)) σ) ∧ (0 ≤ l1 → (((40 : Int) ≤ l1 → P (vi (0 : Int)) σ) ∧ (l1 < (40 : Int) → ((0 ≤ l1 ∧ l1 < 40) ∧ P (vi (σ 47 b l1)) σ)))))) : G (d + 0) P 0 0 [vr 17 b, vi l1] [] σ := blk (S := noS) (c := cd_0) (bz := false) [] 600 (SV_no _) rfl rfl rfl h
/-- RegionStack$Row.set at 0, 3 leaves -/
theorem b_1t17_0 {d : Nat} {P : AV → SS → Prop} {σ : SS} {b l1 l2 : Int} (h : ((l1 < 0 → P vu σ) ∧ (0 ≤ l1 → (((40 : Int) ≤ l1 → P vu σ) ∧ (l1 < (40 : Int) → ((0 ≤ l1 ∧ l1 < 40) ∧ (∀ σ1 : SS, σ1 = up σ 47 b l1 l2 → P vu σ1))))))) : G (d + 0) P 1 0 [vr 17 b, vi l1, vi l2] [] σ := blk (S := noS) (c := cd_1) (bz := false) [] 600 (SV_no _) rfl rfl rfl h
/-- RegionStack$Row.get at 0, 3 leaves -/
theorem b_0t18_0 {d : Nat} {P : AV → SS → Prop} {σ : SS} {b l1 : Int} (h : ((l1 < 0 → P (vi (0 : Int)) σ) ∧ (0 ≤ l1 → (((40 : Int) ≤ l1 → P (vi (0 : Int)) σ) ∧ (l1 < (40 : Int) → ((0 ≤ l1 ∧ l1 < 40) ∧ P (vi (σ 48 b l1)) σ)))))) : G (d + 0) P 0 0 [vr 18 b, vi l1] [] σ := blk (S := noS) (c := cd_0) (bz := false) [] 600 (SV_no _) rfl rfl rfl h
/-- RegionStack$Row.set at 0, 3 leaves -/
theorem b_1t18_0 {d : Nat} {P : AV → SS → Prop} {σ : SS} {b l1 l2 : Int} (h : ((l1 < 0 → P vu σ) ∧ (0 ≤ l1 → (((40 : Int) ≤ l1 → P vu σ) ∧ (l1 < (40 : Int) → ((0 ≤ l1 ∧ l1 < 40) ∧ (∀ σ1 : SS, σ1 = up σ 48 b l1 l2 → P vu σ1))))))) : G (d + 0) P 1 0 [vr 18 b, vi l1, vi l2] [] σ := blk (S := noS) (c := cd_1) (bz := false) [] 600 (SV_no _) rfl rfl rfl h
/-- RegionStack$Row.get at 0, 3 leaves -/
theorem b_0t19_0 {d : Nat} {P : AV → SS → Prop} {σ : SS} {b l1 : Int} (h : ((l1 < 0 → P (vi (0 : Int)) σ) ∧ (0 ≤ l1 → (((42 : Int) ≤ l1 → P (vi (0 : Int)) σ) ∧ (l1 < (42 : Int) → ((0 ≤ l1 ∧ l1 < 42) ∧ P (vi (σ 49 b l1)) σ)))))) : G (d + 0) P 0 0 [vr 19 b, vi l1] [] σ := blk (S := noS) (c := cd_0) (bz := false) [] 600 (SV_no _) rfl rfl rfl h
/-- RegionStack$Row.set at 0, 3 leaves -/
theorem b_1t19_0 {d : Nat} {P : AV → SS → Prop} {σ : SS} {b l1 l2 : Int} (h : ((l1 < 0 → P vu σ) ∧ (0 ≤ l1 → (((42 : Int) ≤ l1 → P vu σ) ∧ (l1 < (42 : Int) → ((0 ≤ l1 ∧ l1 < 42) ∧ (∀ σ1 : SS, σ1 = up σ 49 b l1 l2 → P vu σ1))))))) : G (d + 0) P 1 0 [vr 19 b, vi l1, vi l2] [] σ := blk (S := noS) (c := cd_1) (bz := false) [] 600 (SV_no _) rfl rfl rfl h
/-- RegionStack$Row.get at 0, 3 leaves -/
theorem b_0t20_0 {d : Nat} {P : AV → SS → Prop} {σ : SS} {b l1 : Int} (h : ((l1 < 0 → P (vi (0 : Int)) σ) ∧ (0 ≤ l1 → (((520 : Int) ≤ l1 → P (vi (0 : Int)) σ) ∧ (l1 < (520 : Int) → ((0 ≤ l1 ∧ l1 < 520) ∧ P (vi (σ 50 b l1)) σ)))))) : G (d + 0) P 0 0 [vr 20 b, vi l1] [] σ := blk (S := noS) (c := cd_0) (bz := false) [] 600 (SV_no _) rfl rfl rfl h
/-- RegionStack$Row.set at 0, 3 leaves -/
theorem b_1t20_0 {d : Nat} {P : AV → SS → Prop} {σ : SS} {b l1 l2 : Int} (h : ((l1 < 0 → P vu σ) ∧ (0 ≤ l1 → (((520 : Int) ≤ l1 → P vu σ) ∧ (l1 < (520 : Int) → ((0 ≤ l1 ∧ l1 < 520) ∧ (∀ σ1 : SS, σ1 = up σ 50 b l1 l2 → P vu σ1))))))) : G (d + 0) P 1 0 [vr 20 b, vi l1, vi l2] [] σ := blk (S := noS) (c := cd_1) (bz := false) [] 600 (SV_no _) rfl rfl rfl h
/-- RegionStack$Row.get at 0, 3 leaves -/
theorem b_0t21_0 {d : Nat} {P : AV → SS → Prop} {σ : SS} {b l1 : Int} (h : ((l1 < 0 → P (vi (0 : Int)) σ) ∧ (0 ≤ l1 → (((520 : Int) ≤ l1 → P (vi (0 : Int)) σ) ∧ (l1 < (520 : Int) → ((0 ≤ l1 ∧ l1 < 520) ∧ P (vi (σ 51 b l1)) σ)))))) : G (d + 0) P 0 0 [vr 21 b, vi l1] [] σ := blk (S := noS) (c := cd_0) (bz := false) [] 600 (SV_no _) rfl rfl rfl h
/-- RegionStack$Row.set at 0, 3 leaves -/
theorem b_1t21_0 {d : Nat} {P : AV → SS → Prop} {σ : SS} {b l1 l2 : Int} (h : ((l1 < 0 → P vu σ) ∧ (0 ≤ l1 → (((520 : Int) ≤ l1 → P vu σ) ∧ (l1 < (520 : Int) → ((0 ≤ l1 ∧ l1 < 520) ∧ (∀ σ1 : SS, σ1 = up σ 51 b l1 l2 → P vu σ1))))))) : G (d + 0) P 1 0 [vr 21 b, vi l1, vi l2] [] σ := blk (S := noS) (c := cd_1) (bz := false) [] 600 (SV_no _) rfl rfl rfl h
/-- RegionStack$Row.get at 0, 3 leaves -/
theorem b_0t22_0 {d : Nat} {P : AV → SS → Prop} {σ : SS} {b l1 : Int} (h : ((l1 < 0 → P (vi (0 : Int)) σ) ∧ (0 ≤ l1 → (((520 : Int) ≤ l1 → P (vi (0 : Int)) σ) ∧ (l1 < (520 : Int) → ((0 ≤ l1 ∧ l1 < 520) ∧ P (vi (σ 52 b l1)) σ)))))) : G (d + 0) P 0 0 [vr 22 b, vi l1] [] σ := blk (S := noS) (c := cd_0) (bz := false) [] 600 (SV_no _) rfl rfl rfl h
/-- RegionStack$Row.set at 0, 3 leaves -/
theorem b_1t22_0 {d : Nat} {P : AV → SS → Prop} {σ : SS} {b l1 l2 : Int} (h : ((l1 < 0 → P vu σ) ∧ (0 ≤ l1 → (((520 : Int) ≤ l1 → P vu σ) ∧ (l1 < (520 : Int) → ((0 ≤ l1 ∧ l1 < 520) ∧ (∀ σ1 : SS, σ1 = up σ 52 b l1 l2 → P vu σ1))))))) : G (d + 0) P 1 0 [vr 22 b, vi l1, vi l2] [] σ := blk (S := noS) (c := cd_1) (bz := false) [] 600 (SV_no _) rfl rfl rfl h
/-- RegionStack$Row.get at 0, 3 leaves -/
theorem b_0t23_0 {d : Nat} {P : AV → SS → Prop} {σ : SS} {b l1 : Int} (h : ((l1 < 0 → P (vi (0 : Int)) σ) ∧ (0 ≤ l1 → (((520 : Int) ≤ l1 → P (vi (0 : Int)) σ) ∧ (l1 < (520 : Int) → ((0 ≤ l1 ∧ l1 < 520) ∧ P (vi (σ 53 b l1)) σ)))))) : G (d + 0) P 0 0 [vr 23 b, vi l1] [] σ := blk (S := noS) (c := cd_0) (bz := false) [] 600 (SV_no _) rfl rfl rfl h
/-- RegionStack$Row.set at 0, 3 leaves -/
theorem b_1t23_0 {d : Nat} {P : AV → SS → Prop} {σ : SS} {b l1 l2 : Int} (h : ((l1 < 0 → P vu σ) ∧ (0 ≤ l1 → (((520 : Int) ≤ l1 → P vu σ) ∧ (l1 < (520 : Int) → ((0 ≤ l1 ∧ l1 < 520) ∧ (∀ σ1 : SS, σ1 = up σ 53 b l1 l2 → P vu σ1))))))) : G (d + 0) P 1 0 [vr 23 b, vi l1, vi l2] [] σ := blk (S := noS) (c := cd_1) (bz := false) [] 600 (SV_no _) rfl rfl rfl h
/-- RegionStack$Row.get at 0, 3 leaves -/
theorem b_0t24_0 {d : Nat} {P : AV → SS → Prop} {σ : SS} {b l1 : Int} (h : ((l1 < 0 → P (vi (0 : Int)) σ) ∧ (0 ≤ l1 → (((13 : Int) ≤ l1 → P (vi (0 : Int)) σ) ∧ (l1 < (13 : Int) → ((0 ≤ l1 ∧ l1 < 13) ∧ P (vi (σ 54 b l1)) σ)))))) : G (d + 0) P 0 0 [vr 24 b, vi l1] [] σ := blk (S := noS) (c := cd_0) (bz := false) [] 600 (SV_no _) rfl rfl rfl h
/-- RegionStack$Row.set at 0, 3 leaves -/
theorem b_1t24_0 {d : Nat} {P : AV → SS → Prop} {σ : SS} {b l1 l2 : Int} (h : ((l1 < 0 → P vu σ) ∧ (0 ≤ l1 → (((13 : Int) ≤ l1 → P vu σ) ∧ (l1 < (13 : Int) → ((0 ≤ l1 ∧ l1 < 13) ∧ (∀ σ1 : SS, σ1 = up σ 54 b l1 l2 → P vu σ1))))))) : G (d + 0) P 1 0 [vr 24 b, vi l1, vi l2] [] σ := blk (S := noS) (c := cd_1) (bz := false) [] 600 (SV_no _) rfl rfl rfl h
/-- RegionStack$Row.get at 0, 3 leaves -/
theorem b_0t25_0 {d : Nat} {P : AV → SS → Prop} {σ : SS} {b l1 : Int} (h : ((l1 < 0 → P (vi (0 : Int)) σ) ∧ (0 ≤ l1 → (((13 : Int) ≤ l1 → P (vi (0 : Int)) σ) ∧ (l1 < (13 : Int) → ((0 ≤ l1 ∧ l1 < 13) ∧ P (vi (σ 55 b l1)) σ)))))) : G (d + 0) P 0 0 [vr 25 b, vi l1] [] σ := blk (S := noS) (c := cd_0) (bz := false) [] 600 (SV_no _) rfl rfl rfl h
/-- RegionStack$Row.set at 0, 3 leaves -/
theorem b_1t25_0 {d : Nat} {P : AV → SS → Prop} {σ : SS} {b l1 l2 : Int} (h : ((l1 < 0 → P vu σ) ∧ (0 ≤ l1 → (((13 : Int) ≤ l1 → P vu σ) ∧ (l1 < (13 : Int) → ((0 ≤ l1 ∧ l1 < 13) ∧ (∀ σ1 : SS, σ1 = up σ 55 b l1 l2 → P vu σ1))))))) : G (d + 0) P 1 0 [vr 25 b, vi l1, vi l2] [] σ := blk (S := noS) (c := cd_1) (bz := false) [] 600 (SV_no _) rfl rfl rfl h
/-- RegionStack$Row.get at 0, 3 leaves -/
theorem b_0t26_0 {d : Nat} {P : AV → SS → Prop} {σ : SS} {b l1 : Int} (h : ((l1 < 0 → P (vi (0 : Int)) σ) ∧ (0 ≤ l1 → (((520 : Int) ≤ l1 → P (vi (0 : Int)) σ) ∧ (l1 < (520 : Int) → ((0 ≤ l1 ∧ l1 < 520) ∧ P (vi (σ 56 b l1)) σ)))))) : G (d + 0) P 0 0 [vr 26 b, vi l1] [] σ := blk (S := noS) (c := cd_0) (bz := false) [] 600 (SV_no _) rfl rfl rfl h
/-- RegionStack$Row.set at 0, 3 leaves -/
theorem b_1t26_0 {d : Nat} {P : AV → SS → Prop} {σ : SS} {b l1 l2 : Int} (h : ((l1 < 0 → P vu σ) ∧ (0 ≤ l1 → (((520 : Int) ≤ l1 → P vu σ) ∧ (l1 < (520 : Int) → ((0 ≤ l1 ∧ l1 < 520) ∧ (∀ σ1 : SS, σ1 = up σ 56 b l1 l2 → P vu σ1))))))) : G (d + 0) P 1 0 [vr 26 b, vi l1, vi l2] [] σ := blk (S := noS) (c := cd_1) (bz := false) [] 600 (SV_no _) rfl rfl rfl h
/-- RegionStack$Row.get at 0, 3 leaves -/
theorem b_0t27_0 {d : Nat} {P : AV → SS → Prop} {σ : SS} {b l1 : Int} (h : ((l1 < 0 → P (vi (0 : Int)) σ) ∧ (0 ≤ l1 → (((546 : Int) ≤ l1 → P (vi (0 : Int)) σ) ∧ (l1 < (546 : Int) → ((0 ≤ l1 ∧ l1 < 546) ∧ P (vi (σ 57 b l1)) σ)))))) : G (d + 0) P 0 0 [vr 27 b, vi l1] [] σ := blk (S := noS) (c := cd_0) (bz := false) [] 600 (SV_no _) rfl rfl rfl h
/-- RegionStack$Row.set at 0, 3 leaves -/
theorem b_1t27_0 {d : Nat} {P : AV → SS → Prop} {σ : SS} {b l1 l2 : Int} (h : ((l1 < 0 → P vu σ) ∧ (0 ≤ l1 → (((546 : Int) ≤ l1 → P vu σ) ∧ (l1 < (546 : Int) → ((0 ≤ l1 ∧ l1 < 546) ∧ (∀ σ1 : SS, σ1 = up σ 57 b l1 l2 → P vu σ1))))))) : G (d + 0) P 1 0 [vr 27 b, vi l1, vi l2] [] σ := blk (S := noS) (c := cd_1) (bz := false) [] 600 (SV_no _) rfl rfl rfl h
/-- RegionStack$Row.get at 0, 3 leaves -/
theorem b_0t28_0 {d : Nat} {P : AV → SS → Prop} {σ : SS} {b l1 : Int} (h : ((l1 < 0 → P (vi (0 : Int)) σ) ∧ (0 ≤ l1 → (((300 : Int) ≤ l1 → P (vi (0 : Int)) σ) ∧ (l1 < (300 : Int) → ((0 ≤ l1 ∧ l1 < 300) ∧ P (vi (σ 58 b l1)) σ)))))) : G (d + 0) P 0 0 [vr 28 b, vi l1] [] σ := blk (S := noS) (c := cd_0) (bz := false) [] 600 (SV_no _) rfl rfl rfl h
/-- RegionStack$Row.set at 0, 3 leaves -/
theorem b_1t28_0 {d : Nat} {P : AV → SS → Prop} {σ : SS} {b l1 l2 : Int} (h : ((l1 < 0 → P vu σ) ∧ (0 ≤ l1 → (((300 : Int) ≤ l1 → P vu σ) ∧ (l1 < (300 : Int) → ((0 ≤ l1 ∧ l1 < 300) ∧ (∀ σ1 : SS, σ1 = up σ 58 b l1 l2 → P vu σ1))))))) : G (d + 0) P 1 0 [vr 28 b, vi l1, vi l2] [] σ := blk (S := noS) (c := cd_1) (bz := false) [] 600 (SV_no _) rfl rfl rfl h
/-- RegionStack$Row.get at 0, 3 leaves -/
theorem b_0t29_0 {d : Nat} {P : AV → SS → Prop} {σ : SS} {b l1 : Int} (h : ((l1 < 0 → P (vi (0 : Int)) σ) ∧ (0 ≤ l1 → (((546 : Int) ≤ l1 → P (vi (0 : Int)) σ) ∧ (l1 < (546 : Int) → ((0 ≤ l1 ∧ l1 < 546) ∧ P (vi (σ 59 b l1)) σ)))))) : G (d + 0) P 0 0 [vr 29 b, vi l1] [] σ := blk (S := noS) (c := cd_0) (bz := false) [] 600 (SV_no _) rfl rfl rfl h
/-- RegionStack$Row.set at 0, 3 leaves -/
theorem b_1t29_0 {d : Nat} {P : AV → SS → Prop} {σ : SS} {b l1 l2 : Int} (h : ((l1 < 0 → P vu σ) ∧ (0 ≤ l1 → (((546 : Int) ≤ l1 → P vu σ) ∧ (l1 < (546 : Int) → ((0 ≤ l1 ∧ l1 < 546) ∧ (∀ σ1 : SS, σ1 = up σ 59 b l1 l2 → P vu σ1))))))) : G (d + 0) P 1 0 [vr 29 b, vi l1, vi l2] [] σ := blk (S := noS) (c := cd_1) (bz := false) [] 600 (SV_no _) rfl rfl rfl h
/-- RegionStack$Row.get at 0, 3 leaves -/
theorem b_0t30_0 {d : Nat} {P : AV → SS → Prop} {σ : SS} {b l1 : Int} (h : ((l1 < 0 → P (vi (0 : Int)) σ) ∧ (0 ≤ l1 → (((546 : Int) ≤ l1 → P (vi (0 : Int)) σ) ∧ (l1 < (546 : Int) → ((0 ≤ l1 ∧ l1 < 546) ∧ P (vi (σ 60 b l1)) σ)))))) : G (d + 0) P 0 0 [vr 30 b, vi l1] [] σ := blk (S := noS) (c := cd_0) (bz := false) [] 600 (SV_no _) rfl rfl rfl h
/-- RegionStack$Row.set at 0, 3 leaves -/
theorem b_1t30_0 {d : Nat} {P : AV → SS → Prop} {σ : SS} {b l1 l2 : Int} (h : ((l1 < 0 → P vu σ) ∧ (0 ≤ l1 → (((546 : Int) ≤ l1 → P vu σ) ∧ (l1 < (546 : Int) → ((0 ≤ l1 ∧ l1 < 546) ∧ (∀ σ1 : SS, σ1 = up σ 60 b l1 l2 → P vu σ1))))))) : G (d + 0) P 1 0 [vr 30 b, vi l1, vi l2] [] σ := blk (S := noS) (c := cd_1) (bz := false) [] 600 (SV_no _) rfl rfl rfl h
/-- RegionStack$Row.get at 0, 3 leaves -/
theorem b_0t31_0 {d : Nat} {P : AV → SS → Prop} {σ : SS} {b l1 : Int} (h : ((l1 < 0 → P (vi (0 : Int)) σ) ∧ (0 ≤ l1 → (((40 : Int) ≤ l1 → P (vi (0 : Int)) σ) ∧ (l1 < (40 : Int) → ((0 ≤ l1 ∧ l1 < 40) ∧ P (vi (σ 61 b l1)) σ)))))) : G (d + 0) P 0 0 [vr 31 b, vi l1] [] σ := blk (S := noS) (c := cd_0) (bz := false) [] 600 (SV_no _) rfl rfl rfl h
/-- RegionStack$Row.set at 0, 3 leaves -/
theorem b_1t31_0 {d : Nat} {P : AV → SS → Prop} {σ : SS} {b l1 l2 : Int} (h : ((l1 < 0 → P vu σ) ∧ (0 ≤ l1 → (((40 : Int) ≤ l1 → P vu σ) ∧ (l1 < (40 : Int) → ((0 ≤ l1 ∧ l1 < 40) ∧ (∀ σ1 : SS, σ1 = up σ 61 b l1 l2 → P vu σ1))))))) : G (d + 0) P 1 0 [vr 31 b, vi l1, vi l2] [] σ := blk (S := noS) (c := cd_1) (bz := false) [] 600 (SV_no _) rfl rfl rfl h
