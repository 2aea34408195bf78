set_option maxRecDepth 100000 in
set_option maxHeartbeats 4000000 in
theorem b_40_21rr {d : Nat} {P : AV → SS → Prop} {σ : SS} {l1 l2 q p : Int} (h : (∃ σ1 : SS, Rn (d + 2) 139 [vr 33 q, vr 6 p] σ vu σ1 ∧ (ir (l2 + 1) ∧ G (d + 2) P 40 9 [vr 0 0, vi l1, vi (l2 + 1), vu, vu] [] σ1))) : G (d + 2) P 40 21 [vr 0 0, vi l1, vi l2, vr 33 q, vu] [vr 4 p] σ := blk (S := S1) (c := cd_40) (bz := false) [(9, [true, true, true, false, false]), (16, [true, true, true, false, false]), (21, [true, true, true, true, false])] 600 (S1_ok (d + 1)) rfl rfl rfl h
set_option maxRecDepth 100000 in
set_option maxHeartbeats 4000000 in
theorem b_41_28rr {d : Nat} {P : AV → SS → Prop} {σ : SS} {l1 l2 q p : Int} (h : (∃ σ1 : SS, Rn (d + 5) 139 [vr 6 p, vr 33 q] σ vu σ1 ∧ (∃ σ2 : SS, Rn (d + 5) 133 [vr 5 p] σ1 vu σ2 ∧ (ir (l2 + 1) ∧ G (d + 5) P 41 16 [vr 0 0, vi l1, vi (l2 + 1), vu, vu] [] σ2)))) : G (d + 5) P 41 28 [vr 0 0, vi l1, vi l2, vr 33 q, vu] [vr 4 p] σ := blk (S := S1) (c := cd_41) (bz := false) [(16, [true, true, true, false, false]), (23, [true, true, true, false, false]), (28, [true, true, true, true, false])] 600 (S1_ok (d + 4)) rfl rfl rfl h
