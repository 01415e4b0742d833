def zDy (u : zM) (k : Nat) (W : Nat → Int32) : Prop := (u k 3 = W 0 ∧ u k 4 = W 1 ∧ u k 5 = W 4 ∧ u k 6 = W 5 ∧ u k 7 = W 6 ∧ u k 8 = W 7 ∧ u k 9 = W 8 ∧ u k 10 = W 3 ∧ u k 11 = W 10) ∧ (∀ s w, s < 8 → w < 9 → u (k + 1) (w * 8 + s) = W (163 + 9 * s + w)) ∧ (∀ p, p < 8 → u (k + 2) p = W (155 + p)) ∧ zLg u (k + 3) W
def rdN (W : Nat → Int32) (a b : Nat) : Nat := if a < 12 ∧ b < 12 then (W (11 + 12 * a + b)).toNatClampNeg else 0
def zSt (u : zM) (k : Nat) (W : Nat → Int32) : Prop := (∀ a b, a < 12 → b < 12 → u (k + 1) (a * 12 + b) = W (11 + 12 * a + b)) ∧ ∀ a b, a < 12 → b < 12 → u (k + 2) (a * 12 + b) = nI (min 1000 (fwR (rdN W) 12 a b))
def zVb (w : Nat) : Nat := [11, 3, 9999, 9, 9, 99, 99, 6, 1].getD w 0
/-- the bounds of the numbers of a world with n steps -/
def zRg (W : Nat → Int32) (n : Nat) : Prop := (n ≤ 8 ∧ W 0 = nI n) ∧ (∃ t, t ≤ 12 ∧ W 1 = nI t) ∧ (W 2 = 0 ∨ W 2 = 1) ∧ (∃ t, t ≤ 9999 ∧ W 3 = nI t) ∧ (∃ t, t ≤ 200 ∧ W 4 = nI t) ∧ (∃ t, t ≤ 99 ∧ W 5 = nI t) ∧ (∃ t, t ≤ 20 ∧ W 6 = nI t) ∧ (∃ t, t ≤ 100 ∧ W 7 = nI t) ∧ (∃ t, t ≤ 100 ∧ W 8 = nI t) ∧
  (∀ a b, a < 12 → b < 12 → ∃ r, r ≤ 9 ∧ W (11 + 12 * a + b) = nI r) ∧ (∀ a b, a < 12 → b < 12 → W (11 + 12 * a + b) = W (11 + 12 * b + a)) ∧ (∀ a, a < 12 → W (11 + 12 * a + a) = 0) ∧
  (∀ p, p < n → ∃ s, s < n ∧ W (155 + p) = nI s) ∧ (∀ p q, p < n → q < n → W (155 + p) = W (155 + q) → p = q) ∧
  (∀ s w, s < 8 → w < 9 → w ≠ 7 → ∃ c, c ≤ zVb w ∧ W (163 + 9 * s + w) = nI c) ∧ ∀ s, s < 8 → W (163 + 9 * s + 7) = -1 ∨ ∃ c, c ≤ 6 ∧ W (163 + 9 * s + 7) = nI c
def zCore (u : zM) (n : Nat) : Prop := zRg (u 129) n ∧ (∀ a b, a < 12 → b < 12 → u 134 (12 * a + b) = nI (fwR (rdN (u 129)) 12 a b)) ∧ zDy u 4 (u 129) ∧ zSt u 9 (u 129)
/-- the cells whose contents matter from call to call (of 1 and 128 some numbers only) -/
def zCare (c : Nat) : Bool := c == 0 || c == 2 || (4 ≤ c && c ≤ 18) || (42 ≤ c && c ≤ 56) || (60 ≤ c && c ≤ 122) || (129 ≤ c && c ≤ 130) || (133 ≤ c && c ≤ 135) || c == 124
def zSame (u w : zM) : Prop := (∀ c, zCare c = true → w c = u c) ∧ (w 128 6 = u 128 6 ∧ w 128 7 = u 128 7 ∧ w 128 10 = u 128 10 ∧ w 128 15 = u 128 15) ∧ w 1 1 = u 1 1 ∧ w 1 2 = u 1 2
theorem zSame.rf (u : zM) : zSame u u := ⟨fun _ _ => rfl, ⟨rfl, rfl, rfl, rfl⟩, rfl, rfl⟩
theorem zSame.tr {u v w : zM} (h1 : zSame u v) (h2 : zSame v w) : zSame u w := ⟨fun c hc => (h2.1 c hc).trans (h1.1 c hc), ⟨h2.2.1.1.trans h1.2.1.1, h2.2.1.2.1.trans h1.2.1.2.1, h2.2.1.2.2.1.trans h1.2.1.2.2.1, h2.2.1.2.2.2.trans h1.2.1.2.2.2⟩, h2.2.2.1.trans h1.2.2.1, h2.2.2.2.trans h1.2.2.2⟩
/-- a cell that doesn't matter is written -/
theorem zSame.row {u w : zM} {k : Nat} (hk : zCare k = false) (h1 : k ≠ 1) (h2 : k ≠ 128) (h : ∀ c, c ≠ k → w c = u c) : zSame u w :=
  ⟨fun c hc => h c (fun e => by subst e; rw [hk] at hc; cases hc), by rw [h 128 (Ne.symm h2)]; exact ⟨rfl, rfl, rfl, rfl⟩, by rw [h 1 (Ne.symm h1)]; exact ⟨rfl, rfl⟩⟩
/-- a number of the reference's own that doesn't matter -/
theorem zSame.m {u : zM} {j : Nat} (v : Int32) (hj : j ≠ 6 ∧ j ≠ 7 ∧ j ≠ 10 ∧ j ≠ 15) : zSame u (zUp u 128 j v) :=
  ⟨fun c hc => zUp_k _ _ (fun e => by subst e; exact absurd hc (by decide)), ⟨zUp_j _ _ (Ne.symm hj.1), zUp_j _ _ (Ne.symm hj.2.1), zUp_j _ _ (Ne.symm hj.2.2.1), zUp_j _ _ (Ne.symm hj.2.2.2)⟩, by rw [zUp_k _ _ (by decide)], by rw [zUp_k _ _ (by decide)]⟩
theorem zLg.congr {u w : zM} {k : Nat} {W : Nat → Int32} (h1 : w k = u k) (h2 : w (k + 1) = u (k + 1)) (h : zLg u k W) : zLg w k W := by
  unfold zLg
  rw [h1, h2]
  exact h
theorem zDy.congr {u w : zM} {k : Nat} {W : Nat → Int32} (h : ∀ c, k ≤ c → c ≤ k + 4 → w c = u c) (hD : zDy u k W) : zDy w k W := by
  unfold zDy
  rw [h k (by omega) (by omega), h (k + 1) (by omega) (by omega), h (k + 2) (by omega) (by omega)]
  exact ⟨hD.1, hD.2.1, hD.2.2.1, hD.2.2.2.congr (h (k + 3) (by omega) (by omega)) (h (k + 3 + 1) (by omega) (by omega))⟩
theorem zCore.congr {u w : zM} {n : Nat} (h : ∀ c, zCare c = true → w c = u c) (hC : zCore u n) : zCore w n := by
  unfold zCore zSt
  rw [h 129 (by decide), h 134 (by decide), h 10 (by decide), h 11 (by decide)]
  exact ⟨hC.1, hC.2.1, hC.2.2.1.congr (fun c h1 h2 => h c (by simp only [zCare, Bool.or_eq_true, Bool.and_eq_true, decide_eq_true_eq, beq_iff_eq]; omega)), hC.2.2.2⟩
/-- a pair of calls that ask: the answers are one, and nothing that matters has changed -/
def zAsk (x m : Nat) (as : List Value) : Prop := ∀ u n, zCore u n → zCall 60 false x (.ref 0 :: as) u fun v w => zSame u w ∧ zCall 60 false m (.ref 128 :: as) w fun v2 w2 => v2 = v ∧ zSame w w2
/-- the same of calls that may throw: E the thrown one's number, c what the reference tells of it -/
def zAskT (x m : Nat) (as : List Value) (codes : List (Int32 × Int32)) : Prop := ∀ u n, zCore u n →
  (zCall 60 false x (.ref 0 :: as) u fun v w => zSame u w ∧ ∀ o : Int32, zCall 60 false m (.ref 128 :: as) (zUp w 142 0 o) fun v2 w2 => v2 = v ∧ w2 128 0 = 0 ∧ zSame w w2) ∨
  (zCall 60 true x (.ref 0 :: as) u fun v w => zSame u w ∧ zCall 60 false m (.ref 128 :: as) w fun _ w2 => zSame w w2 ∧ ∃ E c, v = some (.int E) ∧ (E, c) ∈ codes ∧ w2 128 0 = c)
