/-! pairs: neighbours -/
def loN (set : Nat) : Nat := ffV (fun s => set.testBit s) 8 0
theorem lo_ok : ∀ set, set < 256 → 0 < set → loN set < 8 ∧ set.testBit (loN set) = true ∧ ∀ i, i < loN set → set.testBit i = false := by decide +kernel
theorem tb_n : ∀ set, set < 256 → ∀ t, t < 12 → tb (nI set) t = set.testBit t := by decide +kernel
theorem lo_uq {set l : Nat} (h2 : set < 256) (h1 : set.testBit l = true) (h : ∀ i, i < l → set.testBit i = false) : l = loN set := by
  have s0 : 0 < set := by have := bit_lt h1; omega
  obtain ⟨a, b, c⟩ := lo_ok set h2 s0
  rcases Nat.lt_trichotomy l (loN set) with q | q | q
  · rw [c l q] at h1; exact absurd h1 (by decide)
  · exact q
  · rw [h _ q] at b; exact absurd b (by decide)
theorem s_low {d set : Nat} {a0 : Int32} {u : zM} {Q : Option Value → zM → Prop} (e0 : a0 = nI set) (h2 : set < 256) (h0 : 0 < set) (h : Q (some (.int (nI (loN set)))) u) : zCall (d + 1) false 58 [.int a0] u Q := by
  subst e0
  refine s_lowest (fun l hl h1 hi => ?_) (fun z => ?_)
  · rw [tb_n set h2 l hl] at h1
    have : l = loN set := lo_uq h2 h1 (fun i hi2 => by rw [← tb_n set h2 i (by omega)]; exact hi i hi2)
    rw [this]; exact h
  · obtain ⟨a, b, c⟩ := lo_ok set h2 h0
    have := z (loN set) (by omega)
    rw [tb_n set h2 _ (by omega), b] at this
    exact absurd this (by decide)
theorem s_firstOf {d set : Nat} {a0 : Int32} {u : zM} {Q : Option Value → zM → Prop} (e0 : a0 = nI set) (h2 : set < 256) (h0 : 0 < set) (h : Q (some (.int (nI (loN set)))) u) : zCall (d + 2) false 301 [.int a0] u Q := by
  refine tX12_firstOf ?_
  refine s_ntz e0 h2 h0 (fun l hl h1 hi => ⟨_, rfl, ?_⟩)
  rw [tb_n set h2 l (by omega)] at h1
  have : l = loN set := lo_uq h2 h1 (fun i hi2 => by rw [← tb_n set h2 i (by omega)]; exact hi i hi2)
  rw [this]; exact h
/-- the greatest of x0 and of the f's of p -/
def pMx (p : Nat → Bool) (f : Nat → Nat) (x0 : Nat) : Nat → Nat
  | 0 => x0
  | o + 1 => if p o = true then max (pMx p f x0 o) (f o) else pMx p f x0 o
theorem pMx_cong {p : Nat → Bool} {f g : Nat → Nat} {x0 : Nat} : ∀ n, (∀ s, s < n → p s = true → f s = g s) → pMx p f x0 n = pMx p g x0 n
  | 0, _ => rfl
  | n + 1, h => by
    unfold pMx
    rw [pMx_cong n (fun s hs => h s (by omega))]
    by_cases q : p n = true
    · rw [if_pos q, if_pos q, h n (by omega) q]
    · rw [if_neg q, if_neg q]
theorem pMx_skip {p : Nat → Bool} {f : Nat → Nat} {x0 : Nat} : ∀ i, (∀ o, o < i → ¬ p o = true) → pMx p f x0 i = x0
  | 0, _ => rfl
  | i + 1, h => by
    unfold pMx
    rw [if_neg (h i (by omega))]
    exact pMx_skip i (fun o ho => h o (by omega))
/-- who may be paired with the lowest of a set -/
def ppV (W : Nat → Int32) (set o : Nat) : Bool := (set - 2 ^ loN set).testBit o && decide (zFar W (cnN W (loN set)) (cnN W o) < 1000)
def prG (A : Nat) (W : Nat → Int32) (n : Nat) : Nat → Nat → Nat
  | 0, _ => 0
  | k + 1, set => if set = 0 then 0 else pMx (ppV W set) (fun o => prG A W n k (set - 2 ^ loN set - 2 ^ o) + A - zFar W (cnN W (loN set)) (cnN W o)) (prG A W n k (set - 2 ^ loN set)) n
def prV (A : Nat) (W : Nat → Int32) (n set : Nat) : Nat := prG A W n (set + 1) set
theorem pp_bit {W : Nat → Int32} {set o : Nat} (h : ppV W set o = true) : (set - 2 ^ loN set).testBit o = true := (Bool.and_eq_true_iff.mp h).1
theorem prG_indep {A : Nat} {W : Nat → Int32} {n : Nat} : ∀ k m set, set < k → set < m → set < 256 → prG A W n k set = prG A W n m set
  | 0, _, _, h, _, _ => absurd h (Nat.not_lt_zero _)
  | _ + 1, 0, _, _, h, _ => absurd h (Nat.not_lt_zero _)
  | k + 1, m + 1, set, h, h2, h3 => by
    rw [prG, prG]
    by_cases q : set = 0
    · rw [if_pos q, if_pos q]
    · rw [if_neg q, if_neg q]
      have lt := bit_lt (lo_ok set h3 (by omega)).2.1
      rw [prG_indep k m (set - 2 ^ loN set) (by omega) (by omega) (by omega)]
      refine pMx_cong n (fun s hs p => ?_)
      have lt2 := bit_lt (pp_bit p)
      rw [prG_indep k m (set - 2 ^ loN set - 2 ^ s) (by omega) (by omega) (by omega)]
theorem prV_0 {A n : Nat} {W : Nat → Int32} : prV A W n 0 = 0 := rfl
theorem prV_s {A n set : Nat} {W : Nat → Int32} (h : 0 < set) (h3 : set < 256) : prV A W n set = pMx (ppV W set) (fun o => prV A W n (set - 2 ^ loN set - 2 ^ o) + A - zFar W (cnN W (loN set)) (cnN W o)) (prV A W n (set - 2 ^ loN set)) n := by
  have lt := bit_lt (lo_ok set h3 h).2.1
  unfold prV
  rw [prG, if_neg (by omega), prG_indep set (set - 2 ^ loN set + 1) (set - 2 ^ loN set) (by omega) (by omega) (by omega)]
  refine pMx_cong n (fun s hs p => ?_)
  have lt2 := bit_lt (pp_bit p)
  rw [prG_indep set (set - 2 ^ loN set - 2 ^ s + 1) (set - 2 ^ loN set - 2 ^ s) (by omega) (by omega) (by omega)]
/-- P pairs, f far: how the two sides write it -/
def pRel (x D R : Nat) : Prop := ∃ P f, 2 * P ≤ x ∧ f ≤ 99 * P ∧ D + f = 1000 * P ∧ R + f = 10000 * P
theorem pRel_max {x D R D2 R2 : Nat} (hx : x ≤ 8) (h : pRel x D R) (h2 : pRel x D2 R2) : pRel x (max D D2) (max R R2) := by
  obtain ⟨P, f, a1, a2, a3, a4⟩ := h
  obtain ⟨P2, f2, b1, b2, b3, b4⟩ := h2
  by_cases q : D ≤ D2
  · exact ⟨P2, f2, b1, b2, by omega, by omega⟩
  · exact ⟨P, f, a1, a2, by omega, by omega⟩
theorem pMx_rel {x : Nat} {p : Nat → Bool} {f g : Nat → Nat} {x0 y0 : Nat} (hx : x ≤ 8) (h0 : pRel x x0 y0) : ∀ n, (∀ s, s < n → p s = true → pRel x (f s) (g s)) → pRel x (pMx p f x0 n) (pMx p g y0 n)
  | 0, _ => h0
  | n + 1, h => by
    have ih := pMx_rel hx h0 n (fun s hs => h s (by omega))
    unfold pMx
    by_cases q : p n = true
    · rw [if_pos q, if_pos q]; exact pRel_max hx ih (h n (by omega) q)
    · rw [if_neg q, if_neg q]; exact ih
theorem pRel.le {x y D R : Nat} (h : pRel x D R) (hxy : x ≤ y) : pRel y D R := by
  obtain ⟨P, f, a1, a2⟩ := h
  exact ⟨P, f, by omega, a2⟩
theorem pr_rel {W : Nat → Int32} {n : Nat} (hR : zRg W n) : ∀ k set, set < k → set < 2 ^ n → pRel (pc8 set) (prV 1000 W n set) (prV 10000 W n set)
  | 0, _, h, _ => absurd h (Nat.not_lt_zero _)
  | k + 1, set, h, h2 => by
    have h8 := hR.1.1
    have p2 := p2_le h8
    by_cases q : set = 0
    · subst q
      exact ⟨0, 0, Nat.zero_le _, Nat.le_refl _, rfl, rfl⟩
    · have h3 : set < 256 := by omega
      obtain ⟨l8, lb, ll⟩ := lo_ok set h3 (by omega)
      have lt := bit_lt lb
      have r1 := pc8_rm set h3 _ l8 lb
      have le := pc8_le set
      rw [prV_s (by omega) h3, prV_s (by omega) h3]
      refine pMx_rel le ((pr_rel hR k (set - 2 ^ loN set) (by omega) (by omega)).le (by omega)) n (fun s hs p => ?_)
      have pb := pp_bit p
      have lt2 := bit_lt pb
      have r2 := pc8_rm (set - 2 ^ loN set) (by omega) s (by omega) pb
      obtain ⟨P, f, a1, a2, a3, a4⟩ := pr_rel hR k (set - 2 ^ loN set - 2 ^ s) (by omega) (by omega)
      have pf := of_decide_eq_true (Bool.and_eq_true_iff.mp p).2
      have f99 := zFar_99 hR (cnN W (loN set)) (cnN W s) (cnN_lt W _) (cnN_lt W _)
      exact ⟨P + 1, f + zFar W (cnN W (loN set)) (cnN W s), by omega, by omega, by omega, by omega⟩
