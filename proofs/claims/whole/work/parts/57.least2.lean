/-- the charge never falls below what was driven: after i places the way driven and the way home fit into it, if none was passed by -/
theorem zRide_back {F : Nat → Nat → Nat} {K p0 : Nat} {cn : Nat → Nat} {no : Nat → Bool} {st : Nat → Nat} (h0 : F 0 0 = 0) : ∀ i, (∀ k, k < i → F (zRide F K cn no st p0 k).c (cn (st k)) + F (cn (st k)) 0 ≤ (zRide F K cn no st p0 k).p) → (zRide F K cn no st p0 i).c = (zWy F (fun k => cn (st k)) i).1 ∧ (zRide F K cn no st p0 i).p + (zWy F (fun k => cn (st k)) i).2 = p0
  | 0, _ => ⟨rfl, rfl⟩
  | i + 1, h => by
    obtain ⟨i1, i2⟩ := zRide_back (F := F) (K := K) (p0 := p0) (no := no) h0 i (fun k hk => h k (by omega))
    have q := h i (by omega)
    have e : zWy F (fun k => cn (st k)) (i + 1) = (cn (st i), (zWy F (fun k => cn (st k)) i).2 + F (zWy F (fun k => cn (st k)) i).1 (cn (st i))) := rfl
    have g : zRide F K cn no st p0 (i + 1) = (cn (st i), (zRide F K cn no st p0 i).p - F (zRide F K cn no st p0 i).c (cn (st i)), (zRide F K cn no st p0 i).t + zBt K (zRide F K cn no st p0 i).t (no (st i)), (zRide F K cn no st p0 i).came ||| zBit (st i), (zRide F K cn no st p0 i).gave ||| (if 0 < zBt K (zRide F K cn no st p0 i).t (no (st i)) then zBit (st i) else 0), upd (zRide F K cn no st p0 i).lf (st i) (nI (zBt K (zRide F K cn no st p0 i).t (no (st i)))), upd (zRide F K cn no st p0 i).rs (st i) (nI ((zRide F K cn no st p0 i).p - F (zRide F K cn no st p0 i).c (cn (st i))))) := if_pos q
    rw [g, e]
    refine ⟨rfl, ?_⟩
    show (zRide F K cn no st p0 i).p - F (zRide F K cn no st p0 i).c (cn (st i)) + ((zWy F (fun k => cn (st k)) i).2 + F (zWy F (fun k => cn (st k)) i).1 (cn (st i))) = p0
    rw [i1] at q ⊢; omega
theorem zRide_needs {F : Nat → Nat → Nat} {K p0 n : Nat} {cn : Nat → Nat} {no : Nat → Bool} {st : Nat → Nat} (h0 : F 0 0 = 0) (h : ∀ k, k < n → F (zRide F K cn no st p0 k).c (cn (st k)) + F (cn (st k)) 0 ≤ (zRide F K cn no st p0 k).p) : zWay F (fun k => cn (st k)) n ≤ p0 := by
  obtain ⟨i1, i2⟩ := zRide_back (K := K) (no := no) h0 n h
  have hh := zRide_home (K := K) (p0 := p0) (cn := cn) (no := no) (st := st) h0 n
  unfold zWay
  rw [i1] at hh
  omega
