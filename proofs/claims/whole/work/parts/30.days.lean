def zor (p : Nat → Bool) : Nat → Int32
  | 0 => 0
  | n + 1 => if p n then zor p n ||| ((1 : Int32) <<< (nI n &&& 31)) else zor p n
theorem s_sum {d k0 w n : Nat} {a1 : Int32} {u : zM} {Q : Option Value → zM → Prop} (hk : zShapes[k0]? = some (.inl 1)) (e1 : a1 = nI w) (hw : w < 9) (hn : u k0 3 = nI n) (h8 : n ≤ 8) (h : Q (some (.int (zsm (fun s => u (k0 + 1) (w * 8 + s)) n))) u) : zCall (d + 2) false 15 [.ref k0, .int a1] u Q := by
  subst e1
  refine tX1_sum hk ?_
  refine zFor (σ := Int32) (Pr := fun i x => zRun (d + 1) false zcX1_sum 1 Q 4 [(0, .ref k0), (1, .int (nI w)), (2, .int x), (3, .int (nI i))] [] u) (fun i x => x = zsm (fun s => u (k0 + 1) (w * 8 + s)) i) n (fun x hx => ?_) (fun i x hi hx ih => ?_) 0 rfl
  · refine tX1_sum_4 hk ⟨fun _ => by rw [hx]; exact h, fun c => absurd ?_ c⟩
    rw [hn]; exact Int32.le_refl _
  · refine tX1_sum_4 hk ?_
    simp (disch := omega) only [hn, nI_lit, nI_mul, nI_add, nI_clamp, vp_nI, nI_leI]
    exact ⟨fun c => absurd c (by omega), fun _ => ⟨hw, by omega, ih _ (by rw [hx]; rfl)⟩⟩
theorem s_drySteps {d k0 n : Nat} {u : zM} {Q : Option Value → zM → Prop} (hk : zShapes[k0]? = some (.inl 1)) (hn : u k0 3 = nI n) (h8 : n ≤ 8) (h : Q (some (.int (zor (fun s => decide (0 < u (k0 + 1) (48 + s))) n))) u) : zCall (d + 2) false 17 [.ref k0] u Q := by
  refine tX1_drySteps hk ?_
  refine zFor (σ := Int32) (Pr := fun i x => zRun (d + 1) false zcX1_drySteps 1 Q 4 [(0, .ref k0), (1, .int x), (2, .int (nI i))] [] u) (fun i x => x = zor (fun s => decide (0 < u (k0 + 1) (48 + s))) i) n (fun x hx => ?_) (fun i x hi hx ih => ?_) 0 rfl
  · refine tX1_drySteps_4 hk ⟨fun _ => by rw [hx]; exact h, fun c => absurd ?_ c⟩
    rw [hn]; exact Int32.le_refl _
  · refine tX1_drySteps_4 hk ?_
    have e : ((6 : Int32) * 8) + nI i = nI (48 + i) := by rw [nI_lit, nI_lit, nI_mul, nI_add]
    rw [e]
    simp (disch := omega) only [hn, nI_1, nI_clamp, vp_nI, nI_leI]
    refine ⟨fun c => absurd c (by omega), fun _ => ⟨by omega, fun c => ih _ ?_, fun c => ih _ ?_⟩⟩
    · rw [hx]; conv => rhs; unfold zor
      rw [if_neg (by simpa using Int32.not_lt.mpr c)]
    · rw [hx]; conv => rhs; unfold zor
      rw [if_pos (by simpa using Int32.not_le.mp c)]
theorem s_stepsWith {d k0 w n : Nat} {a1 a2 : Int32} {u : zM} {Q : Option Value → zM → Prop} (hk : zShapes[k0]? = some (.inl 1)) (e1 : a1 = nI w) (hw : w < 9) (hn : u k0 3 = nI n) (h8 : n ≤ 8) (h : Q (some (.int (zor (fun s => decide (u (k0 + 1) (w * 8 + s) = a2)) n))) u) : zCall (d + 2) false 18 [.ref k0, .int a1, .int a2] u Q := by
  subst e1
  refine tX1_stepsWith hk ?_
  refine zFor (σ := Int32) (Pr := fun i x => zRun (d + 1) false zcX1_stepsWith 1 Q 5 [(0, .ref k0), (1, .int (nI w)), (2, .int a2), (3, .int x), (4, .int (nI i))] [] u) (fun i x => x = zor (fun s => decide (u (k0 + 1) (w * 8 + s) = a2)) i) n (fun x hx => ?_) (fun i x hi hx ih => ?_) 0 rfl
  · refine tX1_stepsWith_5 hk ⟨fun _ => by rw [hx]; exact h, fun c => absurd ?_ c⟩
    rw [hn]; exact Int32.le_refl _
  · refine tX1_stepsWith_5 hk ?_
    have e : (nI w * 8) + nI i = nI (w * 8 + i) := by rw [nI_lit, nI_mul, nI_add]
    rw [e]
    simp (disch := omega) only [hn, nI_1, nI_clamp, vp_nI, nI_leI]
    refine ⟨fun c => absurd c (by omega), fun _ => ⟨hw, by omega, fun c => ih _ ?_, fun c => ih _ ?_⟩⟩
    · rw [hx]; conv => rhs; unfold zor
      rw [if_neg (by simpa using c)]
    · rw [hx]; conv => rhs; unfold zor
      rw [if_pos (by simpa using c)]
def zBest (f : Nat → Int32) (n : Nat) (r : Int32) : Prop := (n = 0 ∧ r = -1) ∨ ∃ b, b < n ∧ r = nI b ∧ (∀ s, s < n → f s ≤ f b) ∧ ∀ s, s < b → f s < f b
theorem s_stepOfMost {d k0 w n : Nat} {a1 : Int32} {u : zM} {Q : Option Value → zM → Prop} (hk : zShapes[k0]? = some (.inl 1)) (e1 : a1 = nI w) (hw : w < 9) (hn : u k0 3 = nI n) (h8 : n ≤ 8) (h : ∀ r, zBest (fun s => u (k0 + 1) (w * 8 + s)) n r → Q (some (.int r)) u) : zCall (d + 2) false 19 [.ref k0, .int a1] u Q := by
  subst e1
  refine tX1_stepOfMost hk ?_
  refine zFor (σ := Int32) (Pr := fun i x => zRun (d + 1) false zcX1_stepOfMost 1 Q 4 [(0, .ref k0), (1, .int (nI w)), (2, .int x), (3, .int (nI i))] [] u) (fun i x => zBest (fun s => u (k0 + 1) (w * 8 + s)) i x) n (fun x hx => ?_) (fun i x hi hx ih => ?_) (-1) (Or.inl ⟨rfl, rfl⟩)
  · refine tX1_stepOfMost_4 hk ⟨fun _ => h x hx, fun c => absurd ?_ c⟩
    rw [hn]; exact Int32.le_refl _
  · refine tX1_stepOfMost_4 hk ?_
    have e : (nI w * 8) + nI i = nI (w * 8 + i) := by rw [nI_lit, nI_mul, nI_add]
    rw [e]
    rcases hx with ⟨rfl, rfl⟩ | ⟨b, hb, rfl, g1, g2⟩
    · refine ⟨fun c => absurd c ?_, fun _ => ⟨fun _ => ?_, fun c => absurd rfl c⟩⟩
      · rw [hn, nI_leI (by omega) (by omega)]; omega
      · rw [nI_1]
        exact ih _ (Or.inr ⟨0, by omega, rfl, fun s hs => by obtain rfl : s = 0 := by omega
                                                             exact Int32.le_refl _, fun s hs => absurd hs (Nat.not_lt_zero _)⟩)
    · have e2 : (nI w * 8) + nI b = nI (w * 8 + b) := by rw [nI_lit, nI_mul, nI_add]
      rw [e2]
      simp (disch := omega) only [hn, nI_1, nI_clamp, vp_nI, nI_leI]
      refine ⟨fun c => absurd c (by omega), fun _ => ⟨fun c => absurd c (nI_m1 (by omega)), fun _ => ⟨hw, by omega, hw, by omega, fun c => ih _ (Or.inr ⟨b, by omega, rfl, fun s hs => ?_, g2⟩), fun c => ih _ (Or.inr ⟨i, by omega, rfl, fun s hs => ?_, fun s hs => ?_⟩)⟩⟩⟩
      · rcases Nat.lt_or_ge s i with q | q
        · exact g1 s q
        · obtain rfl : s = i := by omega
          exact c
      · rcases Nat.lt_or_ge s i with q | q
        · exact Int32.le_trans (g1 s q) (Int32.le_of_lt (Int32.not_le.mp c))
        · obtain rfl : s = i := by omega
          exact Int32.le_refl _
      · exact Int32.lt_of_le_of_lt (g1 s hs) (Int32.not_le.mp c)
