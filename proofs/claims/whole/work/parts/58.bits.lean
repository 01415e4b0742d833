def tb (x : Int32) (t : Nat) : Bool := x.toBitVec.getLsbD t
theorem tb_bit : ∀ s, s < 8 → ∀ t, t < 32 → tb (zBit s) t = decide (t = s) := by decide +kernel
theorem tb_full : ∀ n, n < 9 → ∀ t, t < 32 → tb (((1 : Int32) <<< (nI n &&& 31)) - 1) t = decide (t < n) := by decide +kernel
theorem tb_0 (t : Nat) : tb 0 t = false := by show (BitVec.ofInt 32 0).getLsbD t = false; simp
theorem tb_or (x y : Int32) (t : Nat) : tb (x ||| y) t = (tb x t || tb y t) := by unfold tb; rw [Int32.toBitVec_or, BitVec.getLsbD_or]
theorem tb_ext {x y : Int32} (h : ∀ t, t < 32 → tb x t = tb y t) : x = y := by
  apply Int32.toBitVec_inj.mp
  apply BitVec.eq_of_getLsbD_eq
  intro i hi
  exact h i hi
/-- a step whose bit stands was come to at a place of its own -/
theorem zRide_came {F : Nat → Nat → Nat} {K p0 : Nat} {cn : Nat → Nat} {no : Nat → Bool} {st : Nat → Nat} (hs : ∀ k, st k < 8) {s : Nat} (h8 : s < 8) : ∀ i, tb (zRide F K cn no st p0 i).came s = true → ∃ k, k < i ∧ st k = s ∧ F (zRide F K cn no st p0 k).c (cn (st k)) + F (cn (st k)) 0 ≤ (zRide F K cn no st p0 k).p
  | 0, h => by
    have e : tb (zRide F K cn no st p0 0).came s = false := tb_0 s
    rw [e] at h; cases h
  | i + 1, h => by
    by_cases q : F (zRide F K cn no st p0 i).c (cn (st i)) + F (cn (st i)) 0 ≤ (zRide F K cn no st p0 i).p
    · have g : (zRide F K cn no st p0 (i + 1)).came = (zRide F K cn no st p0 i).came ||| zBit (st i) := by
        show (zGoTo F K cn no (zRide F K cn no st p0 i) (st i)).came = _
        unfold zGoTo
        rw [if_pos q]; rfl
      rw [g, tb_or, tb_bit _ (hs i) s (by omega)] at h
      by_cases e : s = st i
      · exact ⟨i, by omega, e.symm, q⟩
      · simp only [e, decide_false, Bool.or_false] at h
        obtain ⟨k, k1, k2, k3⟩ := zRide_came hs h8 i h
        exact ⟨k, by omega, k2, k3⟩
    · have g : zRide F K cn no st p0 (i + 1) = zRide F K cn no st p0 i := if_neg q
      rw [g] at h
      obtain ⟨k, k1, k2, k3⟩ := zRide_came hs h8 i h
      exact ⟨k, by omega, k2, k3⟩
