def zLg (u : zM) (k : Nat) (W : Nat → Int32) : Prop := ∃ L N : Nat, L ≤ 60 ∧ N < 60 ∧ u k 1 = nI L ∧ u k 2 = nI N ∧ W 9 = nI L ∧ ∀ i c, i < L → c < 4 → u (k + 1) (((N + 59 - i) % 60) * 4 + c) = W (235 + 4 * i + c)
theorem s_cell {d k0 L N i c : Nat} {a1 a2 : Int32} {u : zM} {Q : Option Value → zM → Prop} (hk : zShapes[k0]? = some (.inl 3)) (e1 : a1 = nI i) (e2 : a2 = nI c) (hL : u k0 1 = nI L) (hN : u k0 2 = nI N) (h60 : L ≤ 60) (hN60 : N < 60) (hi : i < L) (hc : c < 4) (h : Q (some (.int (u (k0 + 1) (((N + 59 - i) % 60) * 4 + c)))) u) : zCall (d + 1) false 38 [.ref k0, .int a1, .int a2] u Q := by
  subst e1; subst e2
  refine tX3_cell hk ?_
  have hm : (N + 59 - i) % 60 < 60 := Nat.mod_lt _ (by omega)
  have e0 : ((nI N + 60) - 1) - nI i = nI (N + 59 - i) := by
    rw [nI_lit, nI_lit, nI_add, nI_sub (by omega), nI_sub (by omega)]
    congr 1
  have e : (((((u k0 2) + 60) - 1) - nI i - ((((u k0 2) + 60) - 1) - nI i) / 60 * 60) * 4) + nI c = nI (((N + 59 - i) % 60) * 4 + c) := by
    rw [hN, e0, nI_lit, nI_lit, nI_rem (by omega) (by omega), nI_mul, nI_add]
  rw [e]
  simp (disch := omega) only [hL, nI_lit, nI_ltI, nI_leI, vp_nI, nI_clamp]
  exact ⟨fun q => absurd q (by omega), fun _ => ⟨fun q => absurd q (by omega), fun _ => ⟨fun q => absurd q (by omega), fun _ => ⟨fun _ => ⟨fun q => absurd q (by omega), fun _ => ⟨fun q => absurd q (by omega), fun _ => ⟨by omega, h⟩⟩⟩, fun q => absurd hc q⟩⟩⟩⟩
theorem s_cellN {d k0 L : Nat} {a1 a2 : Int32} {u : zM} {Q : Option Value → zM → Prop} (hk : zShapes[k0]? = some (.inl 3)) (hL : u k0 1 = nI L) (ha : a1 < 0 ∨ nI L ≤ a1) (h : Q (some (.int (-1))) u) : zCall (d + 1) false 38 [.ref k0, .int a1, .int a2] u Q := by
  refine tX3_cell hk ⟨fun _ => h, fun q => ⟨fun _ => h, fun q2 => absurd ?_ q2⟩⟩
  rw [hL]
  exact ha.resolve_left q
