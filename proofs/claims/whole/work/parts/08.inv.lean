theorem zLk_mem {α : Type} {l : List (Nat × α)} {i : Nat} {x : α} (h : zLk l i = some x) : (i, x) ∈ l := by
  induction l with
  | nil => simp [zLk] at h
  | cons a t ih =>
    obtain ⟨j, w⟩ := a
    unfold zLk at h
    by_cases hj : Nat.beq j i = true
    · rw [hj] at h
      have e := Nat.eq_of_beq_eq_true hj
      simp only [Option.some.injEq] at h
      subst e; subst h
      exact List.mem_cons_self
    · have hj2 : Nat.beq j i = false := Bool.eq_false_iff.mpr hj
      rw [hj2] at h
      exact List.mem_cons_of_mem _ (ih h)
theorem zI1_e {st : List Value} {k : Int32 → List Value → Prop} (h : zI1 st k) : ∃ x r, st = .int x :: r ∧ k x r := by
  unfold zI1 at h; split at h
  · exact ⟨_, _, rfl, h⟩
  · exact h.elim
theorem zI2_e {st : List Value} {k : Int32 → Int32 → List Value → Prop} (h : zI2 st k) : ∃ y x r, st = .int y :: .int x :: r ∧ k y x r := by
  unfold zI2 at h; split at h
  · exact ⟨_, _, _, rfl, h⟩
  · exact h.elim
theorem zR1_e {st : List Value} {k : Nat → List Value → Prop} (h : zR1 st k) : ∃ x r, st = .ref x :: r ∧ k x r := by
  unfold zR1 at h; split at h
  · exact ⟨_, _, rfl, h⟩
  · exact h.elim
theorem zIR_e {st : List Value} {k : Int32 → Nat → List Value → Prop} (h : zIR st k) : ∃ y x r, st = .int y :: .ref x :: r ∧ k y x r := by
  unfold zIR at h; split at h
  · exact ⟨_, _, _, rfl, h⟩
  · exact h.elim
theorem zIIR_e {st : List Value} {k : Int32 → Int32 → Nat → List Value → Prop} (h : zIIR st k) : ∃ w y x r, st = .int w :: .int y :: .ref x :: r ∧ k w y x r := by
  unfold zIIR at h; split at h
  · exact ⟨_, _, _, _, rfl, h⟩
  · exact h.elim
theorem zLIR_e {st : List Value} {k : Int64 → Int32 → Nat → List Value → Prop} (h : zLIR st k) : ∃ w y x r, st = .long w :: .int y :: .ref x :: r ∧ k w y x r := by
  unfold zLIR at h; split at h
  · exact ⟨_, _, _, _, rfl, h⟩
  · exact h.elim
theorem zL2_e {st : List Value} {k : Int64 → Int64 → List Value → Prop} (h : zL2 st k) : ∃ y x r, st = .long y :: .long x :: r ∧ k y x r := by
  unfold zL2 at h; split at h
  · exact ⟨_, _, _, rfl, h⟩
  · exact h.elim
theorem zV1_e {st : List Value} {k : Value → List Value → Prop} (h : zV1 st k) : ∃ x r, st = x :: r ∧ k x r := by
  unfold zV1 at h; split at h
  · exact ⟨_, _, rfl, h⟩
  · exact h.elim
theorem zV2_e {st : List Value} {k : Value → Value → List Value → Prop} (h : zV2 st k) : ∃ x y r, st = x :: y :: r ∧ k x y r := by
  unfold zV2 at h; split at h
  · exact ⟨_, _, _, rfl, h⟩
  · exact h.elim
theorem zCpy_e {st : List Value} {k : Int32 → Int32 → Nat → Int32 → Nat → List Value → Prop} (h : zCpy st k) : ∃ n dp a sp a0 r, st = .int n :: .int dp :: .ref a :: .int sp :: .ref a0 :: r ∧ k n dp a sp a0 r := by
  unfold zCpy at h; split at h
  · exact ⟨_, _, _, _, _, _, rfl, h⟩
  · exact h.elim
theorem zPop_e {k : List Value → List Value → Prop} : ∀ (n : Nat) (st acc : List Value), zPop n st acc k → ∃ as r, st = as.reverse ++ r ∧ as.length = n ∧ k (as ++ acc) r
  | 0, st, acc, h => ⟨[], st, rfl, rfl, h⟩
  | n + 1, [], acc, h => h.elim
  | n + 1, v :: st, acc, h => by
    obtain ⟨as, r, e1, e2, e3⟩ := zPop_e n st (v :: acc) h
    exact ⟨as ++ [v], r, by rw [e1]; simp, by simp [e2], by simpa using e3⟩
theorem zJ_e {pc : Nat} {o : Int} {k : Nat → Prop} (h : zJ pc o k) : ∃ t : Nat, (pc : Int) + o = (t : Int) ∧ k t := by
  unfold zJ at h; split at h
  · rename_i t e
    exact ⟨t, e, h⟩
  · exact h.elim
theorem zLi_e {ls : zLs} {i : Nat} {k : Int32 → Prop} (h : zLi ls i k) : ∃ x, zLk ls i = some (.int x) ∧ k x := by
  unfold zLi at h; split at h
  · rename_i x e
    exact ⟨x, e, h⟩
  · exact h.elim
theorem zLr_e {ls : zLs} {i : Nat} {k : Nat → Prop} (h : zLr ls i k) : ∃ x, zLk ls i = some (.ref x) ∧ k x := by
  unfold zLr at h; split at h
  · rename_i x e
    exact ⟨x, e, h⟩
  · exact h.elim
theorem zSw_e {pc : Nat} {x : Int32} {k : Nat → Prop} : ∀ (l : List Int) (i : Int), zSw pc x k l i → ∀ (j : Nat) (o : Int), l[j]? = some o → x.toInt = i + j → zJ pc o k
  | [], _, _, j, o, h1, _ => by simp at h1
  | a :: t, i, h, 0, o, h1, h2 => by
    simp at h1; subst h1
    exact h.1 (by simpa using h2)
  | a :: t, i, h, j + 1, o, h1, h2 => zSw_e t (i + 1) h.2 j o (by simpa using h1) (by rw [h2]; push_cast; omega)
def zWf : List Jvm.Cond := wsX00 ++ (wsX10 ++ (wsX20 ++ (wsX30 ++ (wsX40 ++ (wsX50 ++ (wsX60 ++ (wsX70 ++ (wsX90 ++ (wsX100 ++ (wsX110 ++ wsX120))))))))))
def zTS : List Jvm.Cond := zWS ++ zWf
def zW (y : Nat) : List Jvm.Cond := .code (zY y) (zBy y) (zMx y) (zRt y) :: zTS
def zRm (d : Nat) : Room := { frames := d + 8, cells := 0, slots := 0, locals := 64 * d + 600 }
theorem zLk_at {α : Type} {l : List (Nat × α)} {i : Nat} {x : α} (h : zLk l i = some x) : ∃ q : Nat, l[q]? = some (i, x) := List.getElem?_of_mem (zLk_mem h)
