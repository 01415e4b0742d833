theorem nI_dec (n : Nat) : nI (n + 1) + (-1) = nI n := by
  rw [← nI_add n 1, Int32.add_assoc]
  have : nI 1 + (-1 : Int32) = 0 := by decide
  rw [this, Int32.add_zero]
theorem nI_sub1 (n : Nat) : nI (n + 1) - 1 = nI n := by rw [nI_lit, nI_sub (by omega)]; rfl
theorem nI_ix1 {a : Nat} : (nI a * 1) = nI a := by rw [Int32.mul_one]
/-- what a code tells, of the reference -/
theorem s_factOf {d c v s : Nat} {a1 a2 a3 : Int32} {u : zM} {Q : Option Value → zM → Prop} (e1 : a1 = nI c) (e2 : a2 = nI v) (e3 : a3 = nI s) (hc : c ≤ 10) (hs : s < 8) (h : Q (some (.int (lwF (u 129) s c v))) u) : zCall (d + 4) false 233 [.ref 128, .int a1, .int a2, .int a3] u Q := by
  subst e1; subst e2; subst e3
  have a : ∀ w : Nat, w ≤ 8 → (163 + (9 * nI s)) + nI w = nI (163 + 9 * s + w) := fun w _ => by rw [nI_lit, nI_lit, nI_mul, nI_add, nI_add]
  have a0 : (163 + (9 * nI s)) + 0 = nI (163 + 9 * s) := a 0 (by omega)
  have a1 : (163 + (9 * nI s)) + 1 = nI (163 + 9 * s + 1) := a 1 (by omega)
  have a2 : (163 + (9 * nI s)) + 2 = nI (163 + 9 * s + 2) := a 2 (by omega)
  have a3 : (163 + (9 * nI s)) + 3 = nI (163 + 9 * s + 3) := a 3 (by omega)
  have a4 : (163 + (9 * nI s)) + 4 = nI (163 + 9 * s + 4) := a 4 (by omega)
  have a6 : (163 + (9 * nI s)) + 6 = nI (163 + 9 * s + 6) := a 6 (by omega)
  have a7 : (163 + (9 * nI s)) + 7 = nI (163 + 9 * s + 7) := a 7 (by omega)
  have a8 : (163 + (9 * nI s)) + 8 = nI (163 + 9 * s + 8) := a 8 (by omega)
  have vi : ∀ w, w ≤ 8 → vp_in (nI (163 + 9 * s + w)) 2173 := fun w hw => vp_in_nI (by omega) (by decide)
  have v0 : vp_in (nI (163 + 9 * s)) 2173 := vi 0 (by omega)
  have cl : ∀ w, w ≤ 8 → (nI (163 + 9 * s + w)).toNatClampNeg = 163 + 9 * s + w := fun w hw => nI_clamp (by omega)
  have cl0 : (nI (163 + 9 * s)).toNatClampNeg = 163 + 9 * s := cl 0 (by omega)
  refine tX12_factOf ?_
  rw [a0, a1, a2, a3, a4, a6, a7, a8, cl0, cl 1 (by omega), cl 2 (by omega), cl 3 (by omega), cl 4 (by omega), cl 6 (by omega), cl 7 (by omega), cl 8 (by omega), nI_toInt (by omega)]
  unfold lwF at h
  refine ⟨fun q => ?_, fun q => ?_, fun q => ⟨v0, ?_⟩, fun q => ⟨vi 1 (by omega), ?_⟩, fun q => ⟨vi 2 (by omega), ?_⟩, fun q => ⟨vi 3 (by omega), ?_⟩, fun q => ⟨vi 4 (by omega), ?_⟩, fun q => ⟨vi 6 (by omega), ?_⟩, fun q => ?_, fun q => ⟨vi 8 (by omega), ?_⟩, fun q => ⟨vi 7 (by omega), fun z => ?_, fun z => ?_⟩, trivial⟩
  · obtain rfl : c = 10 := by omega
    exact h
  · obtain rfl : c = 0 := by omega
    exact h
  · obtain rfl : c = 1 := by omega
    exact h
  · obtain rfl : c = 2 := by omega
    exact h
  · obtain rfl : c = 3 := by omega
    exact h
  · obtain rfl : c = 4 := by omega
    exact h
  · obtain rfl : c = 5 := by omega
    exact h
  · obtain rfl : c = 6 := by omega
    exact h
  · obtain rfl : c = 7 := by omega
    exact h
  · obtain rfl : c = 8 := by omega
    exact h
  · obtain rfl : c = 9 := by omega
    have h2 : Q (some (.int (if u 129 (163 + 9 * s + 7) = u 129 3 - u 129 3 / 7 * 7 then 1 else 0))) u := h
    rw [if_neg z] at h2
    exact h2
  · obtain rfl : c = 9 := by omega
    have h2 : Q (some (.int (if u 129 (163 + 9 * s + 7) = u 129 3 - u 129 3 / 7 * 7 then 1 else 0))) u := h
    rw [if_pos z] at h2
    exact h2
theorem lwF_01 {W : Nat → Int32} {n s : Nat} (hR : zRg W n) (hs : s < 8) : ∀ c v, c = 8 ∨ c = 9 → lwF W s c v = 0 ∨ lwF W s c v = 1 := by
  intro c v hc
  rcases hc with rfl | rfl
  · obtain ⟨b, hb, e⟩ := hR.2.2.2.2.2.2.2.2.2.2.2.2.2.2.1 s 8 hs (by decide) (by decide)
    have h1 : lwF W s 8 v = W (163 + 9 * s + 8) := rfl
    rw [h1, e]
    have hb1 : b ≤ 1 := hb
    have : b = 0 ∨ b = 1 := by omega
    rcases this with rfl | rfl
    · exact Or.inl rfl
    · exact Or.inr rfl
  · exact i_ite01 _
/-- what the typing tells of a step -/
theorem tyS_cases {c : Nat} {m l : List Bool} (h : tyS c m = some l) : (c ≤ 10 ∧ m.length < 32 ∧ l = decide (c = 8 ∨ c = 9) :: m) ∨ (c = 14 ∧ ∃ r, m = true :: r ∧ l = true :: r) ∨ (c = 11 ∧ ∃ r, m = false :: false :: r ∧ l = false :: r) ∨ ((c = 12 ∨ c = 13) ∧ ∃ r, m = false :: false :: r ∧ l = true :: r) ∨ ((c = 15 ∨ c = 16) ∧ ∃ r, m = true :: true :: r ∧ l = true :: r) := by
  unfold tyS at h
  by_cases c1 : c ≤ 10
  · rw [if_pos c1] at h
    split at h
    · rename_i q
      simp only [Option.some.injEq] at h
      exact Or.inl ⟨c1, q, h.symm⟩
    · cases h
  · rw [if_neg c1] at h
    by_cases c2 : c = 14
    · rw [if_pos c2] at h
      split at h
      · simp only [Option.some.injEq] at h
        exact Or.inr (Or.inl ⟨c2, _, rfl, h.symm⟩)
      · cases h
    · rw [if_neg c2] at h
      by_cases c3 : c = 11
      · rw [if_pos c3] at h
        split at h
        · simp only [Option.some.injEq] at h
          exact Or.inr (Or.inr (Or.inl ⟨c3, _, rfl, h.symm⟩))
        · cases h
      · rw [if_neg c3] at h
        by_cases c4 : c = 12 ∨ c = 13
        · rw [if_pos c4] at h
          split at h
          · simp only [Option.some.injEq] at h
            exact Or.inr (Or.inr (Or.inr (Or.inl ⟨c4, _, rfl, h.symm⟩)))
          · cases h
        · rw [if_neg c4] at h
          by_cases c5 : c = 15 ∨ c = 16
          · rw [if_pos c5] at h
            split at h
            · simp only [Option.some.injEq] at h
              exact Or.inr (Or.inr (Or.inr (Or.inr ⟨c5, _, rfl, h.symm⟩)))
            · cases h
          · rw [if_neg c5] at h; cases h
theorem i_neg2 {x : Int32} (h : x = 0 ∨ x = 1) : (x = 0 ↔ ¬ x = 1) := by
  rcases h with rfl | rfl <;> decide
theorem i_bin {x y : Int32} (h1 : x = 0 ∨ x = 1) (h2 : y = 0 ∨ y = 1) : (x &&& y) = (if x + y = 2 then 1 else 0) ∧ (x ||| y) = (if 0 < x + y then 1 else 0) := by
  rcases h1 with rfl | rfl <;> rcases h2 with rfl | rfl <;> decide
