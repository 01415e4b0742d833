theorem nI_lit (n : Nat) : (OfNat.ofNat n : Int32) = nI (OfNat.ofNat n) := rfl
theorem nI_mul (a b : Nat) : nI a * nI b = nI (a * b) := (Int32.ofNat_mul a b).symm
theorem nI_sub {a b : Nat} (h : b ≤ a) : nI a - nI b = nI (a - b) := by
  have : nI a = nI (a - b) + nI b := by rw [nI_add, Nat.sub_add_cancel h]
  rw [this, Int32.add_sub_cancel]
theorem vp_nI {n N : Nat} (h : n < 2 ^ 31) : vp_in (nI n) N ↔ n < N := by
  unfold vp_in
  rw [nI_clamp h]
  have := nI_pos h
  constructor
  · intro q
    exact Nat.lt_of_not_le (fun z => q (Or.inr z))
  · intro q z
    rcases z with z | z
    · exact this z
    · omega
theorem nI_m1 {n : Nat} (h : n < 2 ^ 31) : ¬ nI n = -1 := by
  intro e
  have := congrArg Int32.toInt e
  rw [nI_toInt h] at this
  have h2 : (-1 : Int32).toInt = -1 := by decide
  rw [h2] at this
  omega
theorem zUp_at (u : zM) (k j : Nat) (v : Int32) : zUp u k j v k j = v := by simp [zUp, zRow, upd]
theorem zUp_j (u : zM) {k j i : Nat} (v : Int32) (h : i ≠ j) : zUp u k j v k i = u k i := by simp [zUp, zRow, upd, h]
theorem zUp_k (u : zM) {k j c : Nat} (v : Int32) (h : c ≠ k) : zUp u k j v c = u c := by simp [zUp, zRow, h]
theorem zUp_kj (u : zM) {k j c i : Nat} (v : Int32) (h : c ≠ k) : zUp u k j v c i = u c i := by simp [zUp, zRow, h]
theorem zUp_row (u : zM) (k j : Nat) (v : Int32) : zUp u k j v k = upd (u k) j v := by simp [zUp, zRow]
theorem upd_at (f : Nat → Int32) (j : Nat) (v : Int32) : upd f j v j = v := by simp [upd]
theorem upd_ne (f : Nat → Int32) {j i : Nat} (v : Int32) (h : i ≠ j) : upd f j v i = f i := by simp [upd, h]
def zsm (f : Nat → Int32) : Nat → Int32
  | 0 => 0
  | n + 1 => zsm f n + f n
theorem zbm {z : Int} (h1 : -2147483648 ≤ z) (h2 : z < 2147483648) : z.bmod (2 ^ 32) = z := by
  rw [Int.bmod_def]
  split <;> omega
theorem nI_div {a b : Nat} (ha : a < 2 ^ 31) (hb : b < 2 ^ 31) : nI a / nI b = nI (a / b) := by
  have hq : a / b ≤ a := Nat.div_le_self a b
  rw [← Int32.toInt_inj, Int32.toInt_div, nI_toInt ha, nI_toInt hb, nI_toInt (by omega)]
  have e : (a : Int).tdiv (b : Int) = ((a / b : Nat) : Int) := by
    rw [Int.tdiv_eq_ediv_of_nonneg (by omega)]
    rfl
  have h9 : ∀ q : Nat, q < 2 ^ 31 → (q : Int).bmod (2 ^ 32) = (q : Int) := fun q hq => zbm (by omega) (by omega)
  rw [e]
  exact h9 _ (Nat.lt_of_le_of_lt hq ha)
theorem nI_rem {a b : Nat} (ha : a < 2 ^ 31) (hb : b < 2 ^ 31) : nI a - nI a / nI b * nI b = nI (a % b) := by
  rw [nI_div ha hb, nI_mul, nI_sub (Nat.div_mul_le_self a b)]
  congr 1
  have := Nat.div_add_mod a b
  rw [Nat.mul_comm] at this
  omega
theorem i_le_refl (x : Int32) : x ≤ x := Int32.le_refl x
theorem zCI_m {d y : Nat} {as : List Value} {u : zM} {K K2 : Int32 → zM → Prop} (k : ∀ x w, K x w → K2 x w) (h : zCI d y as u K) : zCI d y as u K2 := zCall_m d false y as u _ _ (fun v w z => by obtain ⟨x, rfl, z⟩ := z; exact ⟨x, rfl, k x w z⟩) h
theorem zCV_m {d y : Nat} {as : List Value} {u : zM} {K K2 : zM → Prop} (k : ∀ w, K w → K2 w) (h : zCV d y as u K) : zCV d y as u K2 := zCall_m d false y as u _ _ (fun v w z => ⟨z.1, k w z.2⟩) h
theorem vpl (n N : Nat) (h : (Nat.blt n N && Nat.blt N 2147483648) = true) : vp_in (nI n) N := by
  simp only [Bool.and_eq_true] at h
  have h1 : n < N := Nat.le_of_ble_eq_true h.1
  have h2 : N < 2147483648 := Nat.le_of_ble_eq_true h.2
  exact vp_in_nI h1 (by omega)
