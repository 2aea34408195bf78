/-- RegionStack.isLetter at 0, 1 leaves -/
theorem b_4_0 {d : Nat} {P : AV → SS → Prop} {σ : SS} {l0 : Int} (h : (((if (97 : Int) ≤ l0 ∧ l0 ≤ 100 then (1 : Int) else 0) = 0 ∨ (if (97 : Int) ≤ l0 ∧ l0 ≤ 100 then (1 : Int) else 0) = 1) ∧ P (vi (if (97 : Int) ≤ l0 ∧ l0 ≤ 100 then (1 : Int) else 0)) σ)) : G (d + 1) P 4 0 [vi l0] [] σ := blk (S := S1) (c := cd_4) (bz := true) [] 600 (S1_ok (d + 0)) rfl rfl rfl h
/-- RegionStack.isFigure at 0, 1 leaves -/
theorem b_5_0 {d : Nat} {P : AV → SS → Prop} {σ : SS} {l0 : Int} (h : (((if (48 : Int) ≤ l0 ∧ l0 ≤ 57 then (1 : Int) else 0) = 0 ∨ (if (48 : Int) ≤ l0 ∧ l0 ≤ 57 then (1 : Int) else 0) = 1) ∧ P (vi (if (48 : Int) ≤ l0 ∧ l0 ≤ 57 then (1 : Int) else 0)) σ)) : G (d + 1) P 5 0 [vi l0] [] σ := blk (S := S1) (c := cd_5) (bz := true) [] 600 (S1_ok (d + 0)) rfl rfl rfl h
/-- RegionStackModel.isBody at 0, 1 leaves -/
theorem b_10_0 {d : Nat} {P : AV → SS → Prop} {σ : SS} {l0 : Int} (h : (((if (0 : Int) ≤ l0 ∧ l0 ≤ 2 then (1 : Int) else 0) = 0 ∨ (if (0 : Int) ≤ l0 ∧ l0 ≤ 2 then (1 : Int) else 0) = 1) ∧ P (vi (if (0 : Int) ≤ l0 ∧ l0 ≤ 2 then (1 : Int) else 0)) σ)) : G (d + 1) P 10 0 [vi l0] [] σ := blk (S := S1) (c := cd_10) (bz := true) [] 600 (S1_ok (d + 0)) rfl rfl rfl h
/-- RegionStackModel.kindOfSign at 0, 11 leaves -/
theorem b_11_0 {d : Nat} {P : AV → SS → Prop} {σ : SS} {l0 : Int} (h : (((if (48 : Int) ≤ l0 ∧ l0 ≤ 57 then (1 : Int) else 0) = 0 → (((if (97 : Int) ≤ l0 ∧ l0 ≤ 100 then (1 : Int) else 0) = 0 → ((l0 ≠ 42 → (l0 ≠ 43 → (l0 ≠ 45 → (l0 ≠ 63 → (l0 ≠ 64 → (l0 ≠ 108 → (l0 ≠ 110 → (l0 ≠ 120 → P (vi ((-6) : Int)) σ)))))))) ∧ ((l0 = 42 → P (vi (4 : Int)) σ) ∧ ((l0 = 43 → P (vi (6 : Int)) σ) ∧ ((l0 = 45 → P (vi (5 : Int)) σ) ∧ ((l0 = 63 → P (vi (7 : Int)) σ) ∧ ((l0 = 64 → P (vi (9 : Int)) σ) ∧ ((l0 = 108 → P (vi (8 : Int)) σ) ∧ ((l0 = 110 → P (vi (3 : Int)) σ) ∧ ((l0 = 120 → P (vi (1 : Int)) σ) ∧ True)))))))))) ∧ ((if (97 : Int) ≤ l0 ∧ l0 ≤ 100 then (1 : Int) else 0) ≠ 0 → P (vi (2 : Int)) σ))) ∧ ((if (48 : Int) ≤ l0 ∧ l0 ≤ 57 then (1 : Int) else 0) ≠ 0 → P (vi (0 : Int)) σ))) : G (d + 1) P 11 0 [vi l0] [] σ := blk (S := S1) (c := cd_11) (bz := false) [] 600 (S1_ok (d + 0)) rfl rfl rfl h
/-- RegionStack$Term.isPart at 0, 2 leaves -/
theorem b_18_0 {d : Nat} {P : AV → SS → Prop} {σ : SS} {b l1 : Int} (h : (((rg 40 (σ 39 b) l1) = 0 → (((0 : Int) = 0 ∨ (0 : Int) = 1) ∧ P (vi (0 : Int)) σ)) ∧ ((rg 40 (σ 39 b) l1) ≠ 0 → (((1 : Int) = 0 ∨ (1 : Int) = 1) ∧ P (vi (1 : Int)) σ)))) : G (d + 1) P 18 0 [vr 5 b, vi l1] [] σ := blk (S := S1) (c := cd_18) (bz := true) [] 600 (S1_ok (d + 0)) rfl rfl rfl h
/-- RegionStack$Term.innerAt at 0, 1 leaves -/
theorem b_19_0 {d : Nat} {P : AV → SS → Prop} {σ : SS} {b l1 l2 : Int} (h : (ir ((3 : Int) * l1) ∧ (ir (((3 : Int) * l1) + l2) ∧ P (vi (rg 120 (σ 41 b) (((3 : Int) * l1) + l2))) σ))) : G (d + 1) P 19 0 [vr 5 b, vi l1, vi l2] [] σ := blk (S := S1) (c := cd_19) (bz := false) [] 600 (S1_ok (d + 0)) rfl rfl rfl h
/-- RegionStack$Term.binderAt at 0, 1 leaves -/
theorem b_20_0 {d : Nat} {P : AV → SS → Prop} {σ : SS} {b l1 : Int} (h : P (vi (rg 40 (σ 44 b) l1)) σ) : G (d + 1) P 20 0 [vr 5 b, vi l1] [] σ := blk (S := S1) (c := cd_20) (bz := false) [] 600 (S1_ok (d + 0)) rfl rfl rfl h
/-- RegionStack$Term.innerKind at 0, 1 leaves -/
theorem b_21_0 {d : Nat} {P : AV → SS → Prop} {σ : SS} {b l1 l2 : Int} (h : (ir ((3 : Int) * l1) ∧ (ir (((3 : Int) * l1) + l2) ∧ P (vi (rg 40 (σ 38 b) (rg 120 (σ 41 b) (((3 : Int) * l1) + l2)))) σ))) : G (d + 1) P 21 0 [vr 5 b, vi l1, vi l2] [] σ := blk (S := S1) (c := cd_21) (bz := false) [] 600 (S1_ok (d + 0)) rfl rfl rfl h
/-- RegionStack$Store.lookInto at 0, 1 leaves -/
theorem b_22_0 {d : Nat} {P : AV → SS → Prop} {σ : SS} {l1 : Int} (h : P (vi (rg 300 (σ 58 0) l1)) σ) : G (d + 1) P 22 0 [vr 32 0, vi l1] [] σ := blk (S := S1) (c := cd_22) (bz := false) [] 600 (S1_ok (d + 0)) rfl rfl rfl h
def S2 : ST := fun y as σ => match S1 y as σ with
  | some r => some r
  | none => match y, as with
    | 4, [.inl s] => some (none, .inl (if 97 ≤ s ∧ s ≤ 100 then 1 else 0), σ)
    | 5, [.inl s] => some (none, .inl (if 48 ≤ s ∧ s ≤ 57 then 1 else 0), σ)
    | 10, [.inl s] => some (none, .inl (if 0 ≤ s ∧ s ≤ 2 then 1 else 0), σ)
    | 11, [.inl s] => some (none, .inl (kos s), σ)
    | 18, [.inr (.inl (some (5, b))), .inl p] => some (none, .inl (if rg 40 (σ 39 b) p ≠ 0 then 1 else 0), σ)
    | 19, [.inr (.inl (some (5, b))), .inl p, .inl w] => some (some (ir (3 * p) ∧ ir (3 * p + w)), .inl (rg 120 (σ 41 b) (3 * p + w)), σ)
    | 20, [.inr (.inl (some (5, b))), .inl p] => some (none, .inl (rg 40 (σ 44 b) p), σ)
    | 21, [.inr (.inl (some (5, b))), .inl p, .inl w] => some (some (ir (3 * p) ∧ ir (3 * p + w)), .inl (rg 40 (σ 38 b) (rg 120 (σ 41 b) (3 * p + w))), σ)
    | 22, [.inr (.inl (some (32, 0))), .inl p] => some (none, .inl (rg 300 (σ 58 0) p), σ)
    | _, _ => none
theorem it01 {p : Prop} [Decidable p] : (if p then (1 : Int) else 0) = 0 ∨ (if p then (1 : Int) else 0) = 1 := by split <;> simp
theorem s_4 {d : Nat} {σ : SS} {s : Int} : Rn (d + 2) 4 [vi s] σ (vi (if 97 ≤ s ∧ s ≤ 100 then 1 else 0)) σ := G_rn rfl (b_4_0 ⟨it01, rfl, rfl⟩)
theorem s_5 {d : Nat} {σ : SS} {s : Int} : Rn (d + 2) 5 [vi s] σ (vi (if 48 ≤ s ∧ s ≤ 57 then 1 else 0)) σ := G_rn rfl (b_5_0 ⟨it01, rfl, rfl⟩)
theorem s_10 {d : Nat} {σ : SS} {s : Int} : Rn (d + 2) 10 [vi s] σ (vi (if 0 ≤ s ∧ s ≤ 2 then 1 else 0)) σ := G_rn rfl (b_10_0 ⟨it01, rfl, rfl⟩)
theorem ite0 {p : Prop} [Decidable p] : ((if p then (1 : Int) else 0) = 0) ↔ ¬ p := by split <;> simp_all
theorem ite1 {p : Prop} [Decidable p] : ((if p then (1 : Int) else 0) ≠ 0) ↔ p := by split <;> simp_all
theorem s_11 {d : Nat} {σ : SS} {s : Int} : Rn (d + 2) 11 [vi s] σ (vi (kos s)) σ := G_rn rfl (b_11_0 (by
  unfold kos
  simp only [ite0, ite1]
  repeat' first | constructor | intro _
  all_goals first | rfl | (repeat (first | rw [if_pos (by omega)] | rw [if_neg (by omega)]))))
theorem s_18 {d : Nat} {σ : SS} {b p : Int} : Rn (d + 2) 18 [vr 5 b, vi p] σ (vi (if rg 40 (σ 39 b) p ≠ 0 then 1 else 0)) σ := G_rn rfl (b_18_0 ⟨fun h => ⟨Or.inl rfl, by rw [if_neg (by omega)], rfl⟩, fun h => ⟨Or.inr rfl, by rw [if_pos h], rfl⟩⟩)
theorem s_19 {d : Nat} {σ : SS} {b p w : Int} (h : ir (3 * p) ∧ ir (3 * p + w)) : Rn (d + 2) 19 [vr 5 b, vi p, vi w] σ (vi (rg 120 (σ 41 b) (3 * p + w))) σ := G_rn rfl (b_19_0 ⟨h.1, h.2, rfl, rfl⟩)
theorem s_20 {d : Nat} {σ : SS} {b p : Int} : Rn (d + 2) 20 [vr 5 b, vi p] σ (vi (rg 40 (σ 44 b) p)) σ := G_rn rfl (b_20_0 ⟨rfl, rfl⟩)
theorem s_21 {d : Nat} {σ : SS} {b p w : Int} (h : ir (3 * p) ∧ ir (3 * p + w)) : Rn (d + 2) 21 [vr 5 b, vi p, vi w] σ (vi (rg 40 (σ 38 b) (rg 120 (σ 41 b) (3 * p + w)))) σ := G_rn rfl (b_21_0 ⟨h.1, h.2, rfl, rfl⟩)
theorem s_22 {d : Nat} {σ : SS} {p : Int} : Rn (d + 2) 22 [vr 32 0, vi p] σ (vi (rg 300 (σ 58 0) p)) σ := G_rn rfl (b_22_0 ⟨rfl, rfl⟩)
theorem S2_ok (d : Nat) : SV (d + 2) S2 := by
  intro y as σ o v σ' h hq
  unfold S2 at h
  split at h
  · rename_i r hr
    cases h
    exact S1_ok (d + 1) y as σ o v σ' hr hq
  · split at h
    · cases h; exact ⟨s_4, shp1 (Or.inr rfl)⟩
    · cases h; exact ⟨s_5, shp1 (Or.inr rfl)⟩
    · cases h; exact ⟨s_10, shp1 (Or.inr rfl)⟩
    · cases h; exact ⟨s_11, shp1 (Or.inl rfl)⟩
    · cases h; exact ⟨s_18, shp1 (Or.inr rfl)⟩
    · cases h; exact ⟨s_19 (hq _ rfl), shp1 (Or.inl rfl)⟩
    · cases h; exact ⟨s_20, shp1 (Or.inl rfl)⟩
    · cases h; exact ⟨s_21 (hq _ rfl), shp1 (Or.inl rfl)⟩
    · cases h; exact ⟨s_22, shp1 (Or.inl rfl)⟩
    · cases h
/-- RegionStack.isNameFor at 0, 2 leaves -/
theorem b_7_0 {d : Nat} {P : AV → SS → Prop} {σ : SS} {l0 l1 : Int} (h : ((l0 ≠ (108 : Int) → (((if (48 : Int) ≤ l1 ∧ l1 ≤ 50 then (1 : Int) else 0) = 0 ∨ (if (48 : Int) ≤ l1 ∧ l1 ≤ 50 then (1 : Int) else 0) = 1) ∧ P (vi (if (48 : Int) ≤ l1 ∧ l1 ≤ 50 then (1 : Int) else 0)) σ)) ∧ (l0 = (108 : Int) → (((if 97 ≤ l1 ∧ l1 ≤ 100 then (1 : Int) else 0) = 0 ∨ (if 97 ≤ l1 ∧ l1 ≤ 100 then (1 : Int) else 0) = 1) ∧ P (vi (if 97 ≤ l1 ∧ l1 ≤ 100 then (1 : Int) else 0)) σ)))) : G (d + 2) P 7 0 [vi l0, vi l1] [] σ := blk (S := S2) (c := cd_7) (bz := true) [] 600 (S2_ok (d + 0)) rfl rfl rfl h
/-- RegionStack.termsIn at 0, 11 leaves -/
theorem b_8_0 {d : Nat} {P : AV → SS → Prop} {σ : SS} {l0 : Int} (h : ((l0 ≠ 42 → (l0 ≠ 43 → (l0 ≠ 45 → (l0 ≠ 63 → (l0 ≠ 64 → (l0 ≠ 108 → (l0 ≠ 110 → ((l0 = (120 : Int) → P (vi (0 : Int)) σ) ∧ (l0 ≠ (120 : Int) → (((if 48 ≤ l0 ∧ l0 ≤ 57 then (1 : Int) else 0) ≠ 0 → P (vi (0 : Int)) σ) ∧ ((if 48 ≤ l0 ∧ l0 ≤ 57 then (1 : Int) else 0) = 0 → (((if 97 ≤ l0 ∧ l0 ≤ 100 then (1 : Int) else 0) = 0 → P (vi ((-1) : Int)) σ) ∧ ((if 97 ≤ l0 ∧ l0 ≤ 100 then (1 : Int) else 0) ≠ 0 → P (vi (0 : Int)) σ))))))))))))) ∧ ((l0 = 42 → P (vi (1 : Int)) σ) ∧ ((l0 = 43 → P (vi (2 : Int)) σ) ∧ ((l0 = 45 → P (vi (1 : Int)) σ) ∧ ((l0 = 63 → P (vi (3 : Int)) σ) ∧ ((l0 = 64 → P (vi (1 : Int)) σ) ∧ ((l0 = 108 → P (vi (2 : Int)) σ) ∧ ((l0 = 110 → P (vi (1 : Int)) σ) ∧ True))))))))) : G (d + 2) P 8 0 [vi l0] [] σ := blk (S := S2) (c := cd_8) (bz := false) [] 600 (S2_ok (d + 0)) rfl rfl rfl h
def S3 : ST := fun y as σ => match S2 y as σ with
  | some r => some r
  | none => match y, as with
    | 7, [.inl s, .inl n] => some (none, .inl (nmf s n), σ)
    | 8, [.inl s] => some (none, .inl (tin s), σ)
    | _, _ => none
theorem s_7 {d : Nat} {σ : SS} {s n : Int} : Rn (d + 3) 7 [vi s, vi n] σ (vi (nmf s n)) σ := G_rn rfl (b_7_0 (by
  unfold nmf
  refine ⟨fun h => ⟨it01, ?_, rfl⟩, fun h => ⟨it01, ?_, rfl⟩⟩
  · simp only [if_neg h]
  · simp only [if_pos h]))
theorem s_8 {d : Nat} {σ : SS} {s : Int} : Rn (d + 3) 8 [vi s] σ (vi (tin s)) σ := G_rn rfl (b_8_0 (by
  unfold tin
  simp only [ite0, ite1]
  repeat' first | constructor | intro _
  all_goals first | rfl | (repeat (first | rw [if_pos (by omega)] | rw [if_neg (by omega)]))))
theorem S3_ok (d : Nat) : SV (d + 3) S3 := by
  intro y as σ o v σ' h hq
  unfold S3 at h
  split at h
  · rename_i r hr
    cases h
    exact S2_ok (d + 1) y as σ o v σ' hr hq
  · split at h
    · cases h; exact ⟨s_7, shp1 (Or.inr rfl)⟩
    · cases h; exact ⟨s_8, shp1 (Or.inl rfl)⟩
    · cases h
