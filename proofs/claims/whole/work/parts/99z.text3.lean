/-! the class's reading: the sort of a byte -/
def soB (b : Nat) : Nat := if inB 97 122 b = true then 0 else if inB 48 57 b = true then 1 else 2
theorem s_sortOf {d b : Nat} {a0 : Int32} {u : zM} {Q : Option Value → zM → Prop} (e0 : a0 = nI b) (hb : b < 256) (h : Q (some (.int (nI (soB b)))) u) : zCall (d + 1) false 74 [.int a0] u Q := by
  subst e0
  unfold soB inB at h
  have dig : ¬ (97 ≤ b ∧ b ≤ 122) → ((nI b < 48 → Q (some (.int 2)) u) ∧ (¬ nI b < 48 → ((57 < nI b → Q (some (.int 2)) u) ∧ (¬ 57 < nI b → Q (some (.int 1)) u)))) := fun q => by
    rw [decide_eq_false q, if_neg (by decide)] at h
    refine ⟨fun z => ?_, fun z => ⟨fun z2 => ?_, fun z2 => ?_⟩⟩
    · rw [nI_lit, nI_ltI (by omega) (by omega)] at z
      have z : b < 48 := z
      rw [decide_eq_false (by omega), if_neg (by decide)] at h
      exact h
    · rw [nI_lit, nI_ltI (by omega) (by omega)] at z2
      have z2 : 57 < b := z2
      rw [decide_eq_false (by omega), if_neg (by decide)] at h
      exact h
    · rw [nI_lit, nI_ltI (by omega) (by omega)] at z z2
      have z : ¬ b < 48 := z
      have z2 : ¬ 57 < b := z2
      rw [decide_eq_true (by omega), if_pos rfl] at h
      exact h
  refine tX7_sortOf ⟨fun z => ?_, fun z => ⟨fun z2 => ?_, fun z2 => ?_⟩⟩
  · rw [nI_lit, nI_ltI (by omega) (by omega)] at z
    have z : b < 97 := z
    exact dig (by omega)
  · rw [nI_lit, nI_ltI (by omega) (by omega)] at z2
    have z2 : 122 < b := z2
    exact dig (by omega)
  · rw [nI_lit, nI_ltI (by omega) (by omega)] at z z2
    have z : ¬ b < 97 := z
    have z2 : ¬ 122 < b := z2
    rw [decide_eq_true (by omega), if_pos rfl] at h
    exact h
theorem s_sortOf1 {d : Nat} {u : zM} {Q : Option Value → zM → Prop} (h : Q (some (.int 2)) u) : zCall (d + 1) false 74 [.int (-1)] u Q :=
  tX7_sortOf (br_t (by decide) (br_t (by decide) h))
theorem s_byteAt1 {d k0 L p : Nat} {a1 : Int32} {u : zM} {Q : Option Value → zM → Prop} (hk : zShapes[k0]? = some (.inl 7)) (e1 : a1 = nI p) (hL : u k0 1 = nI L) (h4 : L ≤ 400) (hp : L ≤ p) (hp2 : p < 1000) (h : Q (some (.int (-1))) u) : zCall (d + 1) false 73 [.ref k0, .int a1] u Q := by
  subst e1
  exact tX7_byteAt hk (br_f (nI_pos (by omega)) (br_t (by rw [hL, nI_leI (by omega) (by omega)]; exact hp) h))
