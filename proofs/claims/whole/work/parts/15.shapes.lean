theorem zs0_1 {k : Nat} (h : zShapes[k]? = some (.inl 0)) : zShapes[k + 1]? = some (.inr (0, 8)) := by
  have hk := zSh_lt h
  revert h
  have key : ∀ k, k < 143 → zShapes[k]? = some (.inl 0) → zShapes[k + 1]? = some (.inr (0, 8)) := by decide +kernel
  exact key k hk
theorem zs0_2 {k : Nat} (h : zShapes[k]? = some (.inl 0)) : zShapes[k + 2]? = some (.inr (0, 8)) := by
  have hk := zSh_lt h
  revert h
  have key : ∀ k, k < 143 → zShapes[k]? = some (.inl 0) → zShapes[k + 2]? = some (.inr (0, 8)) := by decide +kernel
  exact key k hk
theorem zs1_1 {k : Nat} (h : zShapes[k]? = some (.inl 1)) : zShapes[k + 1]? = some (.inr (0, 72)) := by
  have hk := zSh_lt h
  revert h
  have key : ∀ k, k < 143 → zShapes[k]? = some (.inl 1) → zShapes[k + 1]? = some (.inr (0, 72)) := by decide +kernel
  exact key k hk
theorem zs1_2 {k : Nat} (h : zShapes[k]? = some (.inl 1)) : zShapes[k + 2]? = some (.inr (0, 8)) := by
  have hk := zSh_lt h
  revert h
  have key : ∀ k, k < 143 → zShapes[k]? = some (.inl 1) → zShapes[k + 2]? = some (.inr (0, 8)) := by decide +kernel
  exact key k hk
theorem zs1_3 {k : Nat} (h : zShapes[k]? = some (.inl 1)) : zShapes[k + 3]? = some (.inl 3) := by
  have hk := zSh_lt h
  revert h
  have key : ∀ k, k < 143 → zShapes[k]? = some (.inl 1) → zShapes[k + 3]? = some (.inl 3) := by decide +kernel
  exact key k hk
theorem zs2_1 {k : Nat} (h : zShapes[k]? = some (.inl 2)) : zShapes[k + 1]? = some (.inr (0, 12)) := by
  have hk := zSh_lt h
  revert h
  have key : ∀ k, k < 143 → zShapes[k]? = some (.inl 2) → zShapes[k + 1]? = some (.inr (0, 12)) := by decide +kernel
  exact key k hk
theorem zs2_2 {k : Nat} (h : zShapes[k]? = some (.inl 2)) : zShapes[k + 2]? = some (.inr (0, 12)) := by
  have hk := zSh_lt h
  revert h
  have key : ∀ k, k < 143 → zShapes[k]? = some (.inl 2) → zShapes[k + 2]? = some (.inr (0, 12)) := by decide +kernel
  exact key k hk
theorem zs2_3 {k : Nat} (h : zShapes[k]? = some (.inl 2)) : zShapes[k + 3]? = some (.inr (0, 12)) := by
  have hk := zSh_lt h
  revert h
  have key : ∀ k, k < 143 → zShapes[k]? = some (.inl 2) → zShapes[k + 3]? = some (.inr (0, 12)) := by decide +kernel
  exact key k hk
theorem zs2_4 {k : Nat} (h : zShapes[k]? = some (.inl 2)) : zShapes[k + 4]? = some (.inr (0, 12)) := by
  have hk := zSh_lt h
  revert h
  have key : ∀ k, k < 143 → zShapes[k]? = some (.inl 2) → zShapes[k + 4]? = some (.inr (0, 12)) := by decide +kernel
  exact key k hk
theorem zs2_5 {k : Nat} (h : zShapes[k]? = some (.inl 2)) : zShapes[k + 5]? = some (.inr (0, 400)) := by
  have hk := zSh_lt h
  revert h
  have key : ∀ k, k < 143 → zShapes[k]? = some (.inl 2) → zShapes[k + 5]? = some (.inr (0, 400)) := by decide +kernel
  exact key k hk
theorem zs2_6 {k : Nat} (h : zShapes[k]? = some (.inl 2)) : zShapes[k + 6]? = some (.inr (0, 32)) := by
  have hk := zSh_lt h
  revert h
  have key : ∀ k, k < 143 → zShapes[k]? = some (.inl 2) → zShapes[k + 6]? = some (.inr (0, 32)) := by decide +kernel
  exact key k hk
theorem zs3_1 {k : Nat} (h : zShapes[k]? = some (.inl 3)) : zShapes[k + 1]? = some (.inr (0, 240)) := by
  have hk := zSh_lt h
  revert h
  have key : ∀ k, k < 143 → zShapes[k]? = some (.inl 3) → zShapes[k + 1]? = some (.inr (0, 240)) := by decide +kernel
  exact key k hk
theorem zs4_1 {k : Nat} (h : zShapes[k]? = some (.inl 4)) : zShapes[k + 1]? = some (.inr (0, 256)) := by
  have hk := zSh_lt h
  revert h
  have key : ∀ k, k < 143 → zShapes[k]? = some (.inl 4) → zShapes[k + 1]? = some (.inr (0, 256)) := by decide +kernel
  exact key k hk
theorem zs5_1 {k : Nat} (h : zShapes[k]? = some (.inl 5)) : zShapes[k + 1]? = some (.inr (0, 144)) := by
  have hk := zSh_lt h
  revert h
  have key : ∀ k, k < 143 → zShapes[k]? = some (.inl 5) → zShapes[k + 1]? = some (.inr (0, 144)) := by decide +kernel
  exact key k hk
theorem zs5_2 {k : Nat} (h : zShapes[k]? = some (.inl 5)) : zShapes[k + 2]? = some (.inr (0, 144)) := by
  have hk := zSh_lt h
  revert h
  have key : ∀ k, k < 143 → zShapes[k]? = some (.inl 5) → zShapes[k + 2]? = some (.inr (0, 144)) := by decide +kernel
  exact key k hk
theorem zs6_1 {k : Nat} (h : zShapes[k]? = some (.inl 6)) : zShapes[k + 1]? = some (.inl 1) := by
  have hk := zSh_lt h
  revert h
  have key : ∀ k, k < 143 → zShapes[k]? = some (.inl 6) → zShapes[k + 1]? = some (.inl 1) := by decide +kernel
  exact key k hk
theorem zs6_6 {k : Nat} (h : zShapes[k]? = some (.inl 6)) : zShapes[k + 6]? = some (.inl 5) := by
  have hk := zSh_lt h
  revert h
  have key : ∀ k, k < 143 → zShapes[k]? = some (.inl 6) → zShapes[k + 6]? = some (.inl 5) := by decide +kernel
  exact key k hk
theorem zs6_9 {k : Nat} (h : zShapes[k]? = some (.inl 6)) : zShapes[k + 9]? = some (.inl 2) := by
  have hk := zSh_lt h
  revert h
  have key : ∀ k, k < 143 → zShapes[k]? = some (.inl 6) → zShapes[k + 9]? = some (.inl 2) := by decide +kernel
  exact key k hk
theorem zs6_16 {k : Nat} (h : zShapes[k]? = some (.inl 6)) : zShapes[k + 16]? = some (.inl 0) := by
  have hk := zSh_lt h
  revert h
  have key : ∀ k, k < 143 → zShapes[k]? = some (.inl 6) → zShapes[k + 16]? = some (.inl 0) := by decide +kernel
  exact key k hk
theorem zs7_1 {k : Nat} (h : zShapes[k]? = some (.inl 7)) : zShapes[k + 1]? = some (.inr (0, 400)) := by
  have hk := zSh_lt h
  revert h
  have key : ∀ k, k < 143 → zShapes[k]? = some (.inl 7) → zShapes[k + 1]? = some (.inr (0, 400)) := by decide +kernel
  exact key k hk
theorem zs8_1 {k : Nat} (h : zShapes[k]? = some (.inl 8)) : zShapes[k + 1]? = some (.inr (0, 2304)) := by
  have hk := zSh_lt h
  revert h
  have key : ∀ k, k < 143 → zShapes[k]? = some (.inl 8) → zShapes[k + 1]? = some (.inr (0, 2304)) := by decide +kernel
  exact key k hk
theorem zs9_1 {k : Nat} (h : zShapes[k]? = some (.inl 9)) : zShapes[k + 1]? = some (.inr (0, 8)) := by
  have hk := zSh_lt h
  revert h
  have key : ∀ k, k < 143 → zShapes[k]? = some (.inl 9) → zShapes[k + 1]? = some (.inr (0, 8)) := by decide +kernel
  exact key k hk
theorem zs10_1 {k : Nat} (h : zShapes[k]? = some (.inl 10)) : zShapes[k + 1]? = some (.inl 7) := by
  have hk := zSh_lt h
  revert h
  have key : ∀ k, k < 143 → zShapes[k]? = some (.inl 10) → zShapes[k + 1]? = some (.inl 7) := by decide +kernel
  exact key k hk
theorem zs10_3 {k : Nat} (h : zShapes[k]? = some (.inl 10)) : zShapes[k + 3]? = some (.inl 6) := by
  have hk := zSh_lt h
  revert h
  have key : ∀ k, k < 143 → zShapes[k]? = some (.inl 10) → zShapes[k + 3]? = some (.inl 6) := by decide +kernel
  exact key k hk
theorem zs10_22 {k : Nat} (h : zShapes[k]? = some (.inl 10)) : zShapes[k + 22]? = some (.inl 6) := by
  have hk := zSh_lt h
  revert h
  have key : ∀ k, k < 143 → zShapes[k]? = some (.inl 10) → zShapes[k + 22]? = some (.inl 6) := by decide +kernel
  exact key k hk
theorem zs10_41 {k : Nat} (h : zShapes[k]? = some (.inl 10)) : zShapes[k + 41]? = some (.inl 6) := by
  have hk := zSh_lt h
  revert h
  have key : ∀ k, k < 143 → zShapes[k]? = some (.inl 10) → zShapes[k + 41]? = some (.inl 6) := by decide +kernel
  exact key k hk
theorem zs10_60 {k : Nat} (h : zShapes[k]? = some (.inl 10)) : zShapes[k + 60]? = some (.inr (3, 12)) := by
  have hk := zSh_lt h
  revert h
  have key : ∀ k, k < 143 → zShapes[k]? = some (.inl 10) → zShapes[k + 60]? = some (.inr (3, 12)) := by decide +kernel
  exact key k hk
theorem zs10_121 {k : Nat} (h : zShapes[k]? = some (.inl 10)) : zShapes[k + 121]? = some (.inl 8) := by
  have hk := zSh_lt h
  revert h
  have key : ∀ k, k < 143 → zShapes[k]? = some (.inl 10) → zShapes[k + 121]? = some (.inl 8) := by decide +kernel
  exact key k hk
theorem zs10_123 {k : Nat} (h : zShapes[k]? = some (.inl 10)) : zShapes[k + 123]? = some (.inl 4) := by
  have hk := zSh_lt h
  revert h
  have key : ∀ k, k < 143 → zShapes[k]? = some (.inl 10) → zShapes[k + 123]? = some (.inl 4) := by decide +kernel
  exact key k hk
theorem zs10_125 {k : Nat} (h : zShapes[k]? = some (.inl 10)) : zShapes[k + 125]? = some (.inl 9) := by
  have hk := zSh_lt h
  revert h
  have key : ∀ k, k < 143 → zShapes[k]? = some (.inl 10) → zShapes[k + 125]? = some (.inl 9) := by decide +kernel
  exact key k hk
theorem zs10_127 {k : Nat} (h : zShapes[k]? = some (.inl 10)) : zShapes[k + 127]? = some (.inr (0, 8)) := by
  have hk := zSh_lt h
  revert h
  have key : ∀ k, k < 143 → zShapes[k]? = some (.inl 10) → zShapes[k + 127]? = some (.inr (0, 8)) := by decide +kernel
  exact key k hk
theorem zs11_1 {k : Nat} (h : zShapes[k]? = some (.inl 11)) : zShapes[k + 1]? = some (.inr (0, 2173)) := by
  have hk := zSh_lt h
  revert h
  have key : ∀ k, k < 143 → zShapes[k]? = some (.inl 11) → zShapes[k + 1]? = some (.inr (0, 2173)) := by decide +kernel
  exact key k hk
theorem zs11_2 {k : Nat} (h : zShapes[k]? = some (.inl 11)) : zShapes[k + 2]? = some (.inr (0, 1324)) := by
  have hk := zSh_lt h
  revert h
  have key : ∀ k, k < 143 → zShapes[k]? = some (.inl 11) → zShapes[k + 2]? = some (.inr (0, 1324)) := by decide +kernel
  exact key k hk
theorem zs11_3 {k : Nat} (h : zShapes[k]? = some (.inl 11)) : zShapes[k + 3]? = some (.inr (0, 1324)) := by
  have hk := zSh_lt h
  revert h
  have key : ∀ k, k < 143 → zShapes[k]? = some (.inl 11) → zShapes[k + 3]? = some (.inr (0, 1324)) := by decide +kernel
  exact key k hk
theorem zs11_4 {k : Nat} (h : zShapes[k]? = some (.inl 11)) : zShapes[k + 4]? = some (.inr (0, 475)) := by
  have hk := zSh_lt h
  revert h
  have key : ∀ k, k < 143 → zShapes[k]? = some (.inl 11) → zShapes[k + 4]? = some (.inr (0, 475)) := by decide +kernel
  exact key k hk
theorem zs11_5 {k : Nat} (h : zShapes[k]? = some (.inl 11)) : zShapes[k + 5]? = some (.inr (0, 5700)) := by
  have hk := zSh_lt h
  revert h
  have key : ∀ k, k < 143 → zShapes[k]? = some (.inl 11) → zShapes[k + 5]? = some (.inr (0, 5700)) := by decide +kernel
  exact key k hk
theorem zs11_6 {k : Nat} (h : zShapes[k]? = some (.inl 11)) : zShapes[k + 6]? = some (.inr (0, 144)) := by
  have hk := zSh_lt h
  revert h
  have key : ∀ k, k < 143 → zShapes[k]? = some (.inl 11) → zShapes[k + 6]? = some (.inr (0, 144)) := by decide +kernel
  exact key k hk
theorem zs11_7 {k : Nat} (h : zShapes[k]? = some (.inl 11)) : zShapes[k + 7]? = some (.inr (1, 400)) := by
  have hk := zSh_lt h
  revert h
  have key : ∀ k, k < 143 → zShapes[k]? = some (.inl 11) → zShapes[k + 7]? = some (.inr (1, 400)) := by decide +kernel
  exact key k hk
theorem zs11_8 {k : Nat} (h : zShapes[k]? = some (.inl 11)) : zShapes[k + 8]? = some (.inr (0, 5)) := by
  have hk := zSh_lt h
  revert h
  have key : ∀ k, k < 143 → zShapes[k]? = some (.inl 11) → zShapes[k + 8]? = some (.inr (0, 5)) := by decide +kernel
  exact key k hk
theorem zs11_9 {k : Nat} (h : zShapes[k]? = some (.inl 11)) : zShapes[k + 9]? = some (.inr (0, 400)) := by
  have hk := zSh_lt h
  revert h
  have key : ∀ k, k < 143 → zShapes[k]? = some (.inl 11) → zShapes[k + 9]? = some (.inr (0, 400)) := by decide +kernel
  exact key k hk
theorem zs11_10 {k : Nat} (h : zShapes[k]? = some (.inl 11)) : zShapes[k + 10]? = some (.inr (0, 2304)) := by
  have hk := zSh_lt h
  revert h
  have key : ∀ k, k < 143 → zShapes[k]? = some (.inl 11) → zShapes[k + 10]? = some (.inr (0, 2304)) := by decide +kernel
  exact key k hk
theorem zs11_11 {k : Nat} (h : zShapes[k]? = some (.inl 11)) : zShapes[k + 11]? = some (.inr (0, 201)) := by
  have hk := zSh_lt h
  revert h
  have key : ∀ k, k < 143 → zShapes[k]? = some (.inl 11) → zShapes[k + 11]? = some (.inr (0, 201)) := by decide +kernel
  exact key k hk
theorem zs11_12 {k : Nat} (h : zShapes[k]? = some (.inl 11)) : zShapes[k + 12]? = some (.inr (0, 256)) := by
  have hk := zSh_lt h
  revert h
  have key : ∀ k, k < 143 → zShapes[k]? = some (.inl 11) → zShapes[k + 12]? = some (.inr (0, 256)) := by decide +kernel
  exact key k hk
theorem zs11_13 {k : Nat} (h : zShapes[k]? = some (.inl 11)) : zShapes[k + 13]? = some (.inr (0, 8)) := by
  have hk := zSh_lt h
  revert h
  have key : ∀ k, k < 143 → zShapes[k]? = some (.inl 11) → zShapes[k + 13]? = some (.inr (0, 8)) := by decide +kernel
  exact key k hk
theorem zs_past {i : Int32} (h : vp_in i 12) : zShapes[60 + 1 + 5 * i.toNatClampNeg]? = some (.inl 1) := by
  obtain ⟨j, hj, rfl⟩ := vp_in_of h (by decide)
  rw [nI_clamp (by omega)]
  have key : ∀ j, j < 12 → zShapes[60 + 1 + 5 * j]? = some (.inl 1) := by decide +kernel
  exact key j hj
