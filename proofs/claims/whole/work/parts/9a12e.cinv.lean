/-! the first memory keeps the state's law -/
def bZr (k a n : Nat) : Bool := (List.range n).all fun j => decide (bU k (a + j) = 0)
theorem bZr_e {k a n : Nat} (h : bZr k a n = true) {j : Nat} (h1 : a ≤ j) (h2 : j < a + n) : bU k j = 0 := by
  have h3 := of_decide_eq_true (List.all_eq_true.mp h (j - a) (List.mem_range.mpr (by omega)))
  rw [show a + (j - a) = j by omega] at h3
  exact h3
set_option maxRecDepth 100000 in
theorem bU_129 : bZr 129 0 4 = true ∧ bZr 129 7 3 = true ∧ bZr 129 11 224 = true ∧ bU 129 4 = 60 ∧ bU 129 5 = 20 ∧ bU 129 6 = 2 ∧ bU 129 10 = 1 := by decide +kernel
set_option maxRecDepth 100000 in
theorem bU_4 : (bU 4 3 = 0 ∧ bU 4 4 = 0 ∧ bU 4 5 = 60 ∧ bU 4 6 = 20 ∧ bU 4 7 = 2 ∧ bU 4 8 = 0 ∧ bU 4 9 = 0 ∧ bU 4 10 = 0 ∧ bU 4 11 = 1) ∧ bZr 5 0 72 = true ∧ bZr 6 0 8 = true ∧ bU 7 1 = 0 ∧ bU 7 2 = 0 ∧ bZr 10 0 144 = true ∧ bU 12 6 = -1 := by decide +kernel
set_option maxRecDepth 100000 in
theorem bU_11 : ((List.range 144).all fun j => decide (bU 11 j = if j / 12 = j % 12 then 0 else 1000)) = true := by decide +kernel
set_option maxRecDepth 100000 in
theorem bU_o : bU 1 1 = 0 ∧ bU 1 2 = -1 ∧ bU 128 10 = 0 ∧ bU 128 15 = -1 ∧ bU 0 7 = 0 ∧ bU 128 7 = 0 ∧ bU 0 6 = 0 ∧ bU 0 4 = 0 ∧ bU 128 6 = 0 ∧ bU 121 1 = 0 ∧ bU 124 0 = 0 := by decide +kernel
theorem fw_none : ∀ k a b : Nat, fwR (fun _ _ => 0) k a b = if a = b then 0 else 1000000
  | 0, a, b => by
    unfold fwR
    split
    · rfl
    · rw [if_neg (Nat.lt_irrefl 0)]
  | k + 1, a, b => by
    rw [fwR, fw_none k a b, fw_none k a k, fw_none k k b]
    by_cases h : a = b
    · rw [if_pos h, Nat.zero_min]
    · rw [if_neg h]
      by_cases h1 : a = k
      · subst h1
        rw [if_pos rfl, if_neg h, Nat.zero_add, Nat.min_self]
      · rw [if_neg h1]
        exact Nat.min_eq_left (Nat.le_add_right _ _)
theorem rdN_none {W : Nat → Int32} (h : ∀ a b, a < 12 → b < 12 → W (11 + 12 * a + b) = 0) : rdN W = fun _ _ => 0 := by
  funext a b
  unfold rdN
  by_cases q : a < 12 ∧ b < 12
  · rw [if_pos q, h a b q.1 q.2]
    rfl
  · rw [if_neg q]
/-- what the constructors leave -/
def bW0 (w : zM) : Prop := (∀ c, c ≠ 134 → c ≠ 142 → w c = bU c) ∧ ∀ a b, a < 12 → b < 12 → w 134 (12 * a + b) = nI (if a = b then 0 else 1000000)
theorem bW0_inv {w : zM} (h : bW0 w) : zIv w := by
  obtain ⟨h1, h2⟩ := h
  have e129 := h1 129 (by decide) (by decide)
  obtain ⟨g1, g2, g3, g4, g5, g6, g7⟩ := bU_129
  obtain ⟨⟨d1, d2, d3, d4, d5, d6, d7, d8, d9⟩, k5, k6, k7, k8, k10, k12⟩ := bU_4
  obtain ⟨o1, o2, o3, o4, o5, o6, o7, o8, o9, o10, o11⟩ := bU_o
  have z : ∀ j, (j < 4 ∨ (7 ≤ j ∧ j < 10) ∨ (11 ≤ j ∧ j < 235)) → w 129 j = 0 := by
    intro j hj
    rw [e129]
    rcases hj with q | q | q
    · exact bZr_e g1 (Nat.zero_le _) (by omega)
    · exact bZr_e g2 q.1 (by omega)
    · exact bZr_e g3 q.1 (by omega)
  have w4 : w 129 4 = 60 := by rw [e129]; exact g4
  have w5 : w 129 5 = 20 := by rw [e129]; exact g5
  have w6 : w 129 6 = 2 := by rw [e129]; exact g6
  have w10 : w 129 10 = 1 := by rw [e129]; exact g7
  have hrd : rdN (w 129) = fun _ _ => 0 := rdN_none fun a b ha hb => z _ (by omega)
  refine ⟨0, ⟨⟨⟨by decide, z 0 (by omega)⟩, ⟨0, by decide, z 1 (by omega)⟩, Or.inl (z 2 (by omega)), ⟨0, by decide, z 3 (by omega)⟩, ⟨60, by decide, w4⟩, ⟨20, by decide, w5⟩, ⟨2, by decide, w6⟩, ⟨0, by decide, z 7 (by omega)⟩, ⟨0, by decide, z 8 (by omega)⟩, fun a b ha hb => ⟨0, by decide, z _ (by omega)⟩, fun a b ha hb => by rw [z _ (by omega), z _ (by omega)], fun a ha => z _ (by omega), fun p hp => absurd hp (Nat.not_lt_zero _), fun p q hp => absurd hp (Nat.not_lt_zero _), fun s v hs hv _ => ⟨0, Nat.zero_le _, z _ (by omega)⟩, fun s hs => Or.inr ⟨0, by decide, z _ (by omega)⟩⟩, fun a b ha hb => ?_, ⟨?_, fun s v hs hv => ?_, fun p hp => ?_, ⟨0, 0, by decide, by decide, ?_, ?_, z 9 (by omega), fun i c hi => absurd hi (Nat.not_lt_zero _)⟩⟩, fun a b ha hb => ?_, fun a b ha hb => ?_⟩, ⟨fun _ => ?_, fun q => ?_⟩, ⟨⟨0, by decide, ?_, ?_, fun i hi => absurd hi (Nat.not_lt_zero _)⟩, ?_⟩, ⟨0, 0, by decide, by decide, ?_, ?_, ?_, fun j hj => absurd hj (Nat.not_lt_zero _)⟩, ⟨0, by decide, ?_, ?_, fun q => absurd q (by decide)⟩, Or.inl ?_, ?_⟩
  · rw [h2 a b ha hb, hrd, fw_none]
  · rw [h1 4 (by decide) (by decide), z 0 (by omega), z 1 (by omega), w4, w5, w6, z 7 (by omega), z 8 (by omega), z 3 (by omega), w10]
    exact ⟨d1, d2, d3, d4, d5, d6, d7, d8, d9⟩
  · rw [h1 (4 + 1) (by decide) (by decide), z _ (by omega)]
    exact bZr_e k5 (Nat.zero_le _) (by omega)
  · rw [h1 (4 + 2) (by decide) (by decide), z _ (by omega)]
    exact bZr_e k6 (Nat.zero_le _) (by omega)
  · rw [h1 (4 + 3) (by decide) (by decide)]
    exact k7
  · rw [h1 (4 + 3) (by decide) (by decide)]
    exact k8
  · rw [h1 (9 + 1) (by decide) (by decide), z _ (by omega)]
    exact bZr_e k10 (Nat.zero_le _) (by omega)
  · rw [h1 (9 + 2) (by decide) (by decide), hrd, fw_none]
    have q := of_decide_eq_true (List.all_eq_true.mp bU_11 (a * 12 + b) (List.mem_range.mpr (by omega)))
    rw [show (a * 12 + b) / 12 = a by omega, show (a * 12 + b) % 12 = b by omega] at q
    show bU 11 (a * 12 + b) = _
    rw [q]
    by_cases e : a = b
    · rw [if_pos e, if_pos e]; rfl
    · rw [if_neg e, if_neg e]; rfl
  · rw [h1 12 (by decide) (by decide)]
    exact k12
  · exact absurd (z 2 (by omega)) (by rw [q]; decide)
  · rw [h1 1 (by decide) (by decide)]; exact o1
  · rw [h1 128 (by decide) (by decide)]; exact o3
  · rw [h1 1 (by decide) (by decide), h1 128 (by decide) (by decide), o2, o4]
  · rw [h1 0 (by decide) (by decide)]; exact o5
  · rw [h1 128 (by decide) (by decide)]; exact o6
  · rw [h1 0 (by decide) (by decide)]; exact o7
  · rw [h1 0 (by decide) (by decide)]; exact o8
  · rw [h1 128 (by decide) (by decide)]; exact o9
  · rw [h1 121 (by decide) (by decide)]; exact o10
  · rw [h1 124 (by decide) (by decide)]; exact o11
