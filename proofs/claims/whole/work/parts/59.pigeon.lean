theorem inj_surj : ∀ (n : Nat) (f : Nat → Nat), (∀ k, k < n → f k < n) → (∀ j k, j < n → k < n → f j = f k → j = k) → ∀ s, s < n → ∃ k, k < n ∧ f k = s
  | 0, _, _, _, s, hs => absurd hs (Nat.not_lt_zero _)
  | n + 1, f, hf, hi, s, hs => by
    by_cases e : s = f n
    · exact ⟨n, by omega, e.symm⟩
    · have ne : ∀ k, k < n → f k ≠ f n := fun k hk q => by
        have := hi k n (by omega) (by omega) q
        omega
      have ih := inj_surj n (fun k => if f k = n then f n else f k) (fun k hk => by
        have h1 := hf k (by omega)
        have h2 := hf n (by omega)
        have h3 := ne k hk
        show (if f k = n then f n else f k) < n
        split <;> omega) (fun j k hj hk q => by
        have h1 := ne j hj
        have h2 := ne k hk
        have q2 : (if f j = n then f n else f j) = (if f k = n then f n else f k) := q
        refine hi j k (by omega) (by omega) ?_
        split at q2 <;> split at q2 <;> omega)
      have hn := hf n (by omega)
      by_cases es : s = n
      · obtain ⟨k, k1, k2⟩ := ih (f n) (by omega)
        have k3 : (if f k = n then f n else f k) = f n := k2
        have := ne k k1
        refine ⟨k, by omega, ?_⟩
        split at k3 <;> omega
      · obtain ⟨k, k1, k2⟩ := ih s (by omega)
        have k3 : (if f k = n then f n else f k) = s := k2
        refine ⟨k, by omega, ?_⟩
        split at k3 <;> omega
theorem zcm_tb {st : Nat → Nat} (hs : ∀ k, st k < 8) {t : Nat} (ht : t < 32) : ∀ i, tb (zcm st i) t = true ↔ ∃ k, k < i ∧ st k = t
  | 0 => ⟨fun h => (Bool.false_ne_true ((tb_0 t).symm.trans h)).elim, fun ⟨k, hk, _⟩ => absurd hk (Nat.not_lt_zero _)⟩
  | i + 1 => by
    have ih := zcm_tb hs ht i
    have e : zcm st (i + 1) = zcm st i ||| zBit (st i) := rfl
    rw [e, tb_or, tb_bit _ (hs i) t ht, Bool.or_eq_true, ih, decide_eq_true_eq]
    constructor
    · rintro (⟨k, k1, k2⟩ | q)
      · exact ⟨k, by omega, k2⟩
      · exact ⟨i, by omega, q.symm⟩
    · rintro ⟨k, k1, k2⟩
      by_cases q : k = i
      · subst q; exact Or.inr k2.symm
      · exact Or.inl ⟨k, by omega, k2⟩
theorem zcm_full {st : Nat → Nat} {n : Nat} (hn : n ≤ 8) (hs : ∀ k, st k < 8) (hr : ∀ k, k < n → st k < n) (hi : ∀ j k, j < n → k < n → st j = st k → j = k) : zcm st n = ((1 : Int32) <<< (nI n &&& 31)) - 1 := by
  refine tb_ext (fun t ht => ?_)
  rw [tb_full n (by omega) t ht]
  by_cases q : t < n
  · rw [decide_eq_true q]
    exact (zcm_tb hs ht n).mpr (inj_surj n st hr hi t q)
  · rw [decide_eq_false q]
    refine Bool.eq_false_iff.mpr (fun z => ?_)
    obtain ⟨k, k1, k2⟩ := (zcm_tb hs ht n).mp z
    have := hr k k1
    omega
