theorem zWay_up {F : Nat → Nat → Nat} {g : Nat → Nat} (tri : ∀ a b c, c < 12 → F a b ≤ F a c + F c b) (hg : ∀ k, g k < 12) (i : Nat) : ∀ j, (zWy F g i).2 + F (zWy F g i).1 0 ≤ (zWy F g (i + j)).2 + F (zWy F g (i + j)).1 0
  | 0 => Nat.le_refl _
  | j + 1 => by
    have h := zWay_up tri hg i j
    have t := tri (zWy F g (i + j)).1 0 (g (i + j)) (hg _)
    have e : zWy F g (i + (j + 1)) = (g (i + j), (zWy F g (i + j)).2 + F (zWy F g (i + j)).1 (g (i + j))) := rfl
    rw [e]
    show _ ≤ (zWy F g (i + j)).2 + F (zWy F g (i + j)).1 (g (i + j)) + F (g (i + j)) 0
    omega
/-- the bits of the steps of a round -/
def zcm (st : Nat → Nat) : Nat → Int32
  | 0 => 0
  | i + 1 => zcm st i ||| zBit (st i)
/-- with charge for the whole way, no step is passed by -/
theorem zRide_all {F : Nat → Nat → Nat} {K p0 n : Nat} {cn : Nat → Nat} {no : Nat → Bool} {st : Nat → Nat} (tri : ∀ a b c, c < 12 → F a b ≤ F a c + F c b) (hc : ∀ s, cn s < 12) (h : zWay F (fun k => cn (st k)) n ≤ p0) : ∀ i, i ≤ n → (zRide F K cn no st p0 i).c = (zWy F (fun k => cn (st k)) i).1 ∧ (zRide F K cn no st p0 i).p + (zWy F (fun k => cn (st k)) i).2 = p0 ∧ (zRide F K cn no st p0 i).came = zcm st i
  | 0, _ => ⟨rfl, rfl, rfl⟩
  | i + 1, hi => by
    obtain ⟨i1, i2, i3⟩ := zRide_all (F := F) (K := K) (p0 := p0) (no := no) tri hc h i (by omega)
    have m := zWay_up (F := F) (g := fun k => cn (st k)) tri (fun k => hc _) (i + 1) (n - (i + 1))
    rw [show i + 1 + (n - (i + 1)) = n by omega] at m
    have e : zWy F (fun k => cn (st k)) (i + 1) = (cn (st i), (zWy F (fun k => cn (st k)) i).2 + F (zWy F (fun k => cn (st k)) i).1 (cn (st i))) := rfl
    rw [e] at m
    have m2 : (zWy F (fun k => cn (st k)) i).2 + F (zWy F (fun k => cn (st k)) i).1 (cn (st i)) + F (cn (st i)) 0 ≤ zWay F (fun k => cn (st k)) n := m
    have q : F (zRide F K cn no st p0 i).c (cn (st i)) + F (cn (st i)) 0 ≤ (zRide F K cn no st p0 i).p := by rw [i1]; omega
    have g : zRide F K cn no st p0 (i + 1) = (cn (st i), (zRide F K cn no st p0 i).p - F (zRide F K cn no st p0 i).c (cn (st i)), (zRide F K cn no st p0 i).t + zBt K (zRide F K cn no st p0 i).t (no (st i)), (zRide F K cn no st p0 i).came ||| zBit (st i), (zRide F K cn no st p0 i).gave ||| (if 0 < zBt K (zRide F K cn no st p0 i).t (no (st i)) then zBit (st i) else 0), upd (zRide F K cn no st p0 i).lf (st i) (nI (zBt K (zRide F K cn no st p0 i).t (no (st i)))), upd (zRide F K cn no st p0 i).rs (st i) (nI ((zRide F K cn no st p0 i).p - F (zRide F K cn no st p0 i).c (cn (st i))))) := if_pos q
    rw [g, e]
    refine ⟨rfl, ?_, ?_⟩
    · show (zRide F K cn no st p0 i).p - F (zRide F K cn no st p0 i).c (cn (st i)) + ((zWy F (fun k => cn (st k)) i).2 + F (zWy F (fun k => cn (st k)) i).1 (cn (st i))) = p0
      rw [i1] at q ⊢; omega
    · show (zRide F K cn no st p0 i).came ||| zBit (st i) = zcm st i ||| zBit (st i)
      rw [i3]
