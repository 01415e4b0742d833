def zct (p : Nat → Bool) : Nat → Nat
  | 0 => 0
  | n + 1 => zct p n + (if p n then 1 else 0)
theorem zct_le (p : Nat → Bool) : ∀ n, zct p n ≤ n
  | 0 => Nat.le_refl _
  | n + 1 => by
    have h := zct_le p n
    unfold zct
    split <;> omega
theorem zct_mono {p q : Nat → Bool} : ∀ n, (∀ v, v < n → p v = true → q v = true) → zct p n ≤ zct q n
  | 0, _ => Nat.le_refl _
  | n + 1, h => by
    have ih := zct_mono n (fun v hv => h v (by omega))
    have h2 := h n (by omega)
    unfold zct
    by_cases hp : p n = true
    · rw [if_pos hp, if_pos (h2 hp)]; omega
    · rw [if_neg hp]; split <;> omega
theorem zct_lt {p q : Nat → Bool} : ∀ n, (∀ v, v < n → p v = true → q v = true) → (∃ v, v < n ∧ q v = true ∧ ¬ p v = true) → zct p n + 1 ≤ zct q n
  | 0, _, h => by obtain ⟨v, hv, -⟩ := h; omega
  | n + 1, h, ⟨v, hv, h1, h2⟩ => by
    have hm := zct_mono n (fun v hv => h v (by omega))
    unfold zct
    by_cases e : v = n
    · subst e
      rw [if_pos h1, if_neg h2]; omega
    · have ih := zct_lt n (fun v hv => h v (by omega)) ⟨v, by omega, h1, h2⟩
      have h3 := h n (by omega)
      by_cases hp : p n = true
      · rw [if_pos hp, if_pos (h3 hp)]; omega
      · rw [if_neg hp]; split <;> omega
def fwR (r : Nat → Nat → Nat) : Nat → Nat → Nat → Nat
  | 0, a, b => if a = b then 0 else if 0 < r a b then r a b else 1000000
  | k + 1, a, b => min (fwR r k a b) (fwR r k a k + fwR r k k b)
theorem fw_diag (r : Nat → Nat → Nat) : ∀ k a, fwR r k a a = 0
  | 0, a => by simp [fwR]
  | k + 1, a => by rw [fwR, fw_diag r k a]; exact Nat.zero_min _
theorem fw_anti (r : Nat → Nat → Nat) (k a b : Nat) : fwR r (k + 1) a b ≤ fwR r k a b := Nat.min_le_left _ _
theorem fw_anti0 (r : Nat → Nat → Nat) : ∀ k a b, fwR r k a b ≤ fwR r 0 a b
  | 0, _, _ => Nat.le_refl _
  | k + 1, a, b => Nat.le_trans (fw_anti r k a b) (fw_anti0 r k a b)
theorem fw_le (r : Nat → Nat → Nat) (hr : ∀ a b, r a b ≤ 9) (k a b : Nat) : fwR r k a b ≤ 1000000 := by
  refine Nat.le_trans (fw_anti0 r k a b) ?_
  unfold fwR
  split
  · omega
  · split
    · have := hr a b; omega
    · omega
theorem fw_sym (r : Nat → Nat → Nat) (hs : ∀ a b, r a b = r b a) : ∀ k a b, fwR r k a b = fwR r k b a
  | 0, a, b => by
    unfold fwR
    rw [hs a b]
    by_cases h : a = b
    · subst h; rfl
    · rw [if_neg h, if_neg (Ne.symm h)]
  | k + 1, a, b => by
    unfold fwR
    rw [fw_sym r hs k a b, fw_sym r hs k a k, fw_sym r hs k k b, Nat.add_comm]
theorem fw_col (r : Nat → Nat → Nat) (k a : Nat) : fwR r (k + 1) a k = fwR r k a k := by
  rw [fwR, fw_diag, Nat.add_zero, Nat.min_self]
theorem fw_row (r : Nat → Nat → Nat) (k b : Nat) : fwR r (k + 1) k b = fwR r k k b := by
  rw [fwR, fw_diag, Nat.zero_add, Nat.min_self]
theorem fw_tri (r : Nat → Nat → Nat) : ∀ k a b c, c < k → fwR r k a b ≤ fwR r k a c + fwR r k c b
  | 0, _, _, _, h => absurd h (Nat.not_lt_zero _)
  | k + 1, a, b, c, h => by
    by_cases e : c = k
    · subst e
      rw [fw_col, fw_row]
      exact Nat.min_le_right _ _
    · have hc : c < k := by omega
      have t1 := fw_tri r k a b c hc
      have t2 := fw_tri r k a k c hc
      have t3 := fw_tri r k k b c hc
      have e1 : fwR r (k + 1) a b = min (fwR r k a b) (fwR r k a k + fwR r k k b) := rfl
      have e2 : fwR r (k + 1) a c = min (fwR r k a c) (fwR r k a k + fwR r k k c) := rfl
      have e3 : fwR r (k + 1) c b = min (fwR r k c b) (fwR r k c k + fwR r k k b) := rfl
      rw [e1, e2, e3]
      omega
theorem fw_first (r : Nat → Nat → Nat) {b : Nat} (hb : b < 12) : ∀ k a, k ≤ 12 → a ≠ b → 1000000 ≤ fwR r k a b ∨ ∃ v, v < 12 ∧ 0 < r a v ∧ r a v + fwR r 12 v b ≤ fwR r k a b
  | 0, a, _, hab => by
    unfold fwR
    rw [if_neg hab]
    split
    · rename_i h
      exact Or.inr ⟨b, hb, h, by rw [fw_diag]; exact Nat.le_refl _⟩
    · exact Or.inl (Nat.le_refl _)
  | k + 1, a, hk, hab => by
    have e1 : fwR r (k + 1) a b = min (fwR r k a b) (fwR r k a k + fwR r k k b) := rfl
    rcases Nat.le_total (fwR r k a b) (fwR r k a k + fwR r k k b) with h | h
    · rw [e1, Nat.min_eq_left h]
      exact fw_first r hb k a (by omega) hab
    · rw [e1, Nat.min_eq_right h]
      by_cases hak : a = k
      · subst hak
        rw [fw_diag, Nat.zero_add]
        exact fw_first r hb _ _ (by omega) hab
      · rcases fw_first r (b := k) (by omega) k a (by omega) hak with g | ⟨v, g1, g2, g3⟩
        · exact Or.inl (by omega)
        · refine Or.inr ⟨v, g1, g2, ?_⟩
          have t := fw_tri r 12 v b k (by omega)
          have t2 : fwR r 12 k b ≤ fwR r k k b := by
            have key : ∀ j, fwR r (k + j) k b ≤ fwR r k k b := by
              intro j
              induction j with
              | zero => exact Nat.le_refl _
              | succ j ih => exact Nat.le_trans (fw_anti r (k + j) k b) ih
            have := key (12 - k)
            rwa [show k + (12 - k) = 12 by omega] at this
          omega
theorem fw_cnt (r : Nat → Nat → Nat) (hr : ∀ a b, r a b ≤ 9) {b : Nat} (hb : b < 12) : ∀ D a, a < 12 → fwR r 12 a b = D → D < 1000000 → D ≤ 9 * zct (fun v => decide (fwR r 12 v b < D)) 12 := by
  intro D
  induction D using Nat.strongRecOn with
  | ind D ih =>
    intro a ha e hD
    by_cases hab : a = b
    · subst hab
      rw [fw_diag] at e
      omega
    · rcases fw_first r hb 12 a (Nat.le_refl _) hab with g | ⟨v, g1, g2, g3⟩
      · omega
      · have hrv := hr a v
        have h1 := ih (fwR r 12 v b) (by omega) v g1 rfl (by omega)
        have h2 : zct (fun w => decide (fwR r 12 w b < fwR r 12 v b)) 12 + 1 ≤ zct (fun w => decide (fwR r 12 w b < D)) 12 := by
          refine zct_lt 12 (fun w _ hw => ?_) ⟨v, g1, ?_, ?_⟩
          · simp only [decide_eq_true_eq] at hw ⊢; omega
          · simp only [decide_eq_true_eq]; omega
          · simp only [decide_eq_true_eq]; omega
        have h3 := fw_tri r 12 a b v g1
        have h4 : fwR r 12 a v ≤ r a v := by
          refine Nat.le_trans (fw_anti0 r 12 a v) ?_
          unfold fwR
          split
          · omega
          · first | exact Nat.le_refl _ | (rw [if_pos g2]; exact Nat.le_refl _)
        omega
theorem fw_99 (r : Nat → Nat → Nat) (hr : ∀ a b, r a b ≤ 9) {a b : Nat} (ha : a < 12) (hb : b < 12) : fwR r 12 a b = 1000000 ∨ fwR r 12 a b ≤ 99 := by
  have hle := fw_le r hr 12 a b
  rcases Nat.lt_or_ge (fwR r 12 a b) 1000000 with h | h
  · right
    have h1 := fw_cnt r hr hb (fwR r 12 a b) a ha rfl h
    have h2 : zct (fun v => decide (fwR r 12 v b < fwR r 12 a b)) 12 + 1 ≤ zct (fun _ => true) 12 := zct_lt 12 (fun _ _ _ => rfl) ⟨a, ha, rfl, by simp⟩
    have h3 := zct_le (fun _ => true) 12
    omega
  · left; omega
