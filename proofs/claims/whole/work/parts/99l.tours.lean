/-! tours: the least ways by all of a set and home -/
theorem trMin_cong2 {C : Nat} {p : Nat → Bool} {f g : Nat → Nat} : ∀ n, (∀ s, s < n → p s = true → f s = g s) → trMin C p f n = trMin C p g n
  | 0, _ => rfl
  | n + 1, h => by
    unfold trMin
    rw [trMin_cong2 n (fun s hs => h s (by omega))]
    by_cases q : p n = true
    · rw [if_pos q, if_pos q, h n (by omega) q]
    · rw [if_neg q, if_neg q]
theorem bit_lt {set s : Nat} (h : set.testBit s = true) : set - 2 ^ s < set := by
  have h1 : 2 ^ s ≤ set := Nat.ge_two_pow_of_testBit h
  have h2 : 0 < 2 ^ s := Nat.two_pow_pos s
  omega
theorem trG_indep {F : Nat → Nat → Nat} {cn : Nat → Nat} {C n : Nat} : ∀ k m set c, set < k → set < m → trG F cn C n k set c = trG F cn C n m set c
  | 0, _, _, _, h, _ => absurd h (Nat.not_lt_zero _)
  | _ + 1, 0, _, _, _, h => absurd h (Nat.not_lt_zero _)
  | k + 1, m + 1, set, c, h, h2 => by
    rw [trG, trG]
    by_cases q : set = 0
    · rw [if_pos q, if_pos q]
    · rw [if_neg q, if_neg q]
      refine trMin_cong2 n (fun s hs p => ?_)
      have lt := bit_lt p
      rw [trG_indep k m (set - 2 ^ s) (cn s) (by omega) (by omega)]
theorem trR_0 {F : Nat → Nat → Nat} {cn : Nat → Nat} {C n c : Nat} : trR F cn C n 0 c = F c 0 := rfl
theorem trR_s {F : Nat → Nat → Nat} {cn : Nat → Nat} {C n set c : Nat} (h : set ≠ 0) : trR F cn C n set c = trMin C (fun s => set.testBit s) (fun s => F c (cn s) + trR F cn C n (set - 2 ^ s) (cn s)) n := by
  unfold trR
  rw [trG, if_neg h]
  refine trMin_cong2 n (fun s hs p => ?_)
  have lt := bit_lt p
  rw [trG_indep set (set - 2 ^ s + 1) (set - 2 ^ s) (cn s) lt (by omega)]
theorem trMin_le {C : Nat} {p : Nat → Bool} {f : Nat → Nat} : ∀ n, trMin C p f n ≤ C
  | 0 => Nat.le_refl _
  | n + 1 => by
    have ih := trMin_le (C := C) (p := p) (f := f) n
    unfold trMin
    split <;> omega
theorem trMin_cmp {M : Nat} {p : Nat → Bool} {f g : Nat → Nat} (hM : M < 1000) : ∀ n, (∀ s, s < n → p s = true → (f s ≤ M ∧ g s = f s) ∨ (1000000 ≤ f s ∧ 1000 ≤ g s)) → (trMin 1000000 p f n ≤ M ∧ trMin 1000 p g n = trMin 1000000 p f n) ∨ (trMin 1000000 p f n = 1000000 ∧ trMin 1000 p g n = 1000)
  | 0, _ => Or.inr ⟨rfl, rfl⟩
  | n + 1, h => by
    have ih := trMin_cmp hM n (fun s hs => h s (by omega))
    unfold trMin
    by_cases q : p n = true
    · rw [if_pos q, if_pos q]
      have := h n (by omega) q
      omega
    · rw [if_neg q, if_neg q]; exact ih
theorem trMin_at {C : Nat} {p : Nat → Bool} {f : Nat → Nat} : ∀ n, trMin C p f n < C → ∃ s, s < n ∧ p s = true ∧ f s = trMin C p f n
  | 0, h => absurd h (Nat.lt_irrefl _)
  | n + 1, h => by
    unfold trMin at h ⊢
    by_cases q : p n = true
    · rw [if_pos q] at h ⊢
      by_cases z : f n ≤ trMin C p f n
      · exact ⟨n, by omega, q, by omega⟩
      · obtain ⟨s, h1, h2, h3⟩ := trMin_at (C := C) (p := p) (f := f) n (by omega)
        exact ⟨s, by omega, h2, by omega⟩
    · rw [if_neg q] at h ⊢
      obtain ⟨s, h1, h2, h3⟩ := trMin_at n h
      exact ⟨s, by omega, h2, h3⟩
def pc8 (set : Nat) : Nat := zct (fun s => set.testBit s) 8
theorem pc8_rm : ∀ set, set < 256 → ∀ s, s < 8 → set.testBit s = true → pc8 (set - 2 ^ s) + 1 = pc8 set := by decide +kernel
theorem pc8_le (set : Nat) : pc8 set ≤ 8 := zct_le _ _
theorem pc8_all : ∀ n, n ≤ 8 → pc8 (2 ^ n - 1) = n := by decide +kernel
theorem bit_rm : ∀ set, set < 256 → ∀ s, s < 8 → set.testBit s = true → nI set &&& (((1 : Int32) <<< (nI s &&& 31)) ^^^ (-1)) = nI (set - 2 ^ s) := by decide +kernel
theorem bit_off : ∀ set, set < 256 → ∀ s, s < 8 → set.testBit s = true → (set - 2 ^ s).testBit s = false := by decide +kernel
theorem bit_at : ∀ set, set < 256 → ∀ s, s < 9 → (nI set >>> (nI s &&& 31)) &&& 1 = if set.testBit s = true then 1 else 0 := by decide +kernel
theorem bit_8 : ∀ set, set < 256 → set.testBit 8 = false := by decide +kernel
theorem sl_n : ∀ n, n ≤ 8 → (1 : Int32) <<< (nI n &&& 31) = nI (2 ^ n) := by decide +kernel
theorem sl_m : ∀ n, n ≤ 8 → ((1 : Int32) <<< (nI n &&& 31)) - 1 = nI (2 ^ n - 1) := by decide +kernel
theorem sl_8 : ∀ s, s < 9 → nI s <<< ((8 : Int32) &&& 31) = nI (s * 256) := by decide +kernel
theorem p2_le {n : Nat} (h : n ≤ 8) : 2 ^ n ≤ 256 := Nat.pow_le_pow_right (by decide) h
def trRf (W : Nat → Int32) (n set c : Nat) : Nat := trR (zFar W) (cnN W) 1000000 n set c
def trDv (W : Nat → Int32) (n set c : Nat) : Nat := trR (fun a b => min 1000 (zFar W a b)) (cnN W) 1000 n set c
theorem tr_cmp {W : Nat → Int32} {n : Nat} (hR : zRg W n) : ∀ k set c, set < k → set < 256 → c < 12 → (trRf W n set c ≤ 99 * (pc8 set + 1) ∧ trDv W n set c = trRf W n set c) ∨ (trRf W n set c = 1000000 ∧ trDv W n set c = 1000)
  | 0, _, _, h, _, _ => absurd h (Nat.not_lt_zero _)
  | k + 1, set, c, h, h2, hc => by
    have h8 := hR.1.1
    unfold trRf trDv
    by_cases q : set = 0
    · subst q
      rw [trR_0, trR_0]
      have := zFar_99 hR c 0 hc (by decide)
      have : pc8 0 = 0 := by decide
      omega
    · rw [trR_s q, trR_s q]
      have le := pc8_le set
      refine trMin_cmp (by omega) n (fun s hs p => ?_)
      have lt := bit_lt p
      have ih := tr_cmp hR k (set - 2 ^ s) (cnN W s) (by omega) (by omega) (cnN_lt W s)
      unfold trRf trDv at ih
      have r := pc8_rm set h2 s (by omega) p
      have f := zFar_99 hR c (cnN W s) hc (cnN_lt W s)
      omega
theorem tr_cmp2 {W : Nat → Int32} {n set c : Nat} (hR : zRg W n) (h2 : set < 256) (hc : c < 12) : (trRf W n set c ≤ 891 ∧ trDv W n set c = trRf W n set c) ∨ (trRf W n set c = 1000000 ∧ trDv W n set c = 1000) := by
  have := tr_cmp hR (set + 1) set c (by omega) h2 hc
  have le := pc8_le set
  omega
