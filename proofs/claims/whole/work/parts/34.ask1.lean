theorem zor_congr {p q : Nat → Bool} : ∀ n, (∀ s, s < n → p s = q s) → zor p n = zor q n
  | 0, _ => rfl
  | n + 1, h => by
    unfold zor
    rw [h n (by omega), zor_congr n (fun s hs => h s (by omega))]
theorem zsm_congr {p q : Nat → Int32} : ∀ n, (∀ s, s < n → p s = q s) → zsm p n = zsm q n
  | 0, _ => rfl
  | n + 1, h => by
    unfold zsm
    rw [h n (by omega), zsm_congr n (fun s hs => h s (by omega))]
theorem i_or0 (x : Int32) : x ||| 0 = x := Int32.or_zero
theorem s_thatHave {d w n : Nat} {a1 a2 : Int32} {u : zM} {Q : Option Value → zM → Prop} (e1 : a1 = nI w) (hw : w < 9) (hn : u 129 0 = nI n) (h8 : n ≤ 8) (h : Q (some (.int (zor (fun s => decide (u 129 (163 + 9 * s + w) = a2)) n))) u) : zCall (d + 3) false 310 [.ref 128, .int a1, .int a2] u Q := by
  subst e1
  refine tX12_thatHave ?_
  refine zFor (σ := Int32) (Pr := fun i x => zRun (d + 2) false zcX12_thatHave 1 Q 5 [(0, .ref 128), (1, .int (nI w)), (2, .int a2), (3, .int x), (4, .int (nI i))] [] u) (fun i x => x = zor (fun s => decide (u 129 (163 + 9 * s + w) = a2)) i) n (fun x hx => ?_) (fun i x hi hx ih => ?_) 0 rfl
  · refine tX12_thatHave_5 ⟨fun _ => by rw [hx]; exact h, fun c => absurd ?_ c⟩
    rw [hn]; exact Int32.le_refl _
  · refine tX12_thatHave_5 ?_
    have e : (163 + (9 * nI i)) + nI w = nI (163 + 9 * i + w) := by rw [nI_lit, nI_lit, nI_mul, nI_add, nI_add]
    rw [e]
    simp (disch := omega) only [hn, nI_1, nI_clamp, vp_nI, nI_leI, i_or0]
    refine ⟨fun c => absurd c (by omega), fun _ => ⟨by omega, fun c => ih _ ?_, fun c => ih _ ?_⟩⟩
    · rw [hx]; conv => rhs; unfold zor
      rw [if_neg (by simpa using c)]
    · rw [hx]; conv => rhs; unfold zor
      rw [if_pos (by simpa using c)]
theorem s_dryOnes {d n : Nat} {u : zM} {Q : Option Value → zM → Prop} (hn : u 129 0 = nI n) (h8 : n ≤ 8) (h : Q (some (.int (zor (fun s => decide (0 < u 129 (163 + 9 * s + 6))) n))) u) : zCall (d + 3) false 289 [.ref 128] u Q := by
  refine tX12_dryOnes ?_
  refine zFor (σ := Int32) (Pr := fun i x => zRun (d + 2) false zcX12_dryOnes 1 Q 4 [(0, .ref 128), (1, .int x), (2, .int (nI i))] [] u) (fun i x => x = zor (fun s => decide (0 < u 129 (163 + 9 * s + 6))) i) n (fun x hx => ?_) (fun i x hi hx ih => ?_) 0 rfl
  · refine tX12_dryOnes_4 ⟨fun _ => by rw [hx]; exact h, fun c => absurd ?_ c⟩
    rw [hn]; exact Int32.le_refl _
  · refine tX12_dryOnes_4 ?_
    have e : (163 + (9 * nI i)) + 6 = nI (163 + 9 * i + 6) := by rw [nI_lit, nI_lit, nI_lit, nI_mul, nI_add, nI_add]
    rw [e]
    simp (disch := omega) only [hn, nI_1, nI_clamp, vp_nI, nI_leI, i_or0]
    refine ⟨fun c => absurd c (by omega), fun _ => ⟨by omega, fun c => ih _ ?_, fun c => ih _ ?_⟩⟩
    · rw [hx]; conv => rhs; unfold zor
      rw [if_neg (by simpa using Int32.not_lt.mpr c)]
    · rw [hx]; conv => rhs; unfold zor
      rw [if_pos (by simpa using Int32.not_le.mp c)]
theorem s_sumOf {d w n : Nat} {a1 : Int32} {u : zM} {Q : Option Value → zM → Prop} (e1 : a1 = nI w) (hw : w < 9) (hn : u 129 0 = nI n) (h8 : n ≤ 8) (h : Q (some (.int (zsm (fun s => u 129 (163 + 9 * s + w)) n))) u) : zCall (d + 3) false 236 [.ref 128, .int a1] u Q := by
  subst e1
  refine tX12_sumOf ?_
  refine zFor (σ := Int32) (Pr := fun i x => zRun (d + 2) false zcX12_sumOf 1 Q 4 [(0, .ref 128), (1, .int (nI w)), (2, .int x), (3, .int (nI i))] [] u) (fun i x => x = zsm (fun s => u 129 (163 + 9 * s + w)) i) n (fun x hx => ?_) (fun i x hi hx ih => ?_) 0 rfl
  · refine tX12_sumOf_4 ⟨fun _ => by rw [hx]; exact h, fun c => absurd ?_ c⟩
    rw [hn]; exact Int32.le_refl _
  · refine tX12_sumOf_4 ?_
    have e : (163 + (9 * nI i)) + nI w = nI (163 + 9 * i + w) := by rw [nI_lit, nI_lit, nI_mul, nI_add, nI_add]
    rw [e]
    simp (disch := omega) only [hn, nI_1, nI_clamp, vp_nI, nI_leI]
    exact ⟨fun c => absurd c (by omega), fun _ => ⟨by omega, ih _ (by rw [hx]; rfl)⟩⟩
/-- the first of the greatest that are above t; -1 -/
def zMo (f : Nat → Int32) (t : Int32) (n : Nat) (r mx : Int32) : Prop := (r = -1 ∧ mx = t ∧ ∀ s, s < n → f s ≤ t) ∨ ∃ b, b < n ∧ r = nI b ∧ mx = f b ∧ t < f b ∧ (∀ s, s < n → f s ≤ f b) ∧ ∀ s, s < b → f s < f b
theorem s_mostOf {d w n : Nat} {a1 a2 : Int32} {u : zM} {Q : Option Value → zM → Prop} (e1 : a1 = nI w) (hw : w < 9) (hn : u 129 0 = nI n) (h8 : n ≤ 8) (h : ∀ r mx, zMo (fun s => u 129 (163 + 9 * s + w)) a2 n r mx → Q (some (.int r)) u) : zCall (d + 3) false 314 [.ref 128, .int a1, .int a2] u Q := by
  subst e1
  refine tX12_mostOf ?_
  refine zFor (σ := Int32 × Int32) (Pr := fun i x => zRun (d + 2) false zcX12_mostOf 1 Q 8 [(0, .ref 128), (1, .int (nI w)), (2, .int a2), (3, .int x.1), (4, .int x.2), (5, .int (nI i))] [] u) (fun i x => zMo (fun s => u 129 (163 + 9 * s + w)) a2 i x.1 x.2) n (fun x hx => ?_) (fun i x hi hx ih => ?_) (-1, a2) (Or.inl ⟨rfl, rfl, fun s hs => absurd hs (Nat.not_lt_zero _)⟩)
  · refine tX12_mostOf_8 ⟨fun _ => h x.1 x.2 hx, fun c => absurd ?_ c⟩
    rw [hn]; exact Int32.le_refl _
  · refine tX12_mostOf_8 ?_
    have e : (163 + (9 * nI i)) + nI w = nI (163 + 9 * i + w) := by rw [nI_lit, nI_lit, nI_mul, nI_add, nI_add]
    rw [e]
    obtain ⟨r, mx⟩ := x
    simp (disch := omega) only [hn, nI_1, nI_clamp, vp_nI, nI_leI]
    refine ⟨fun c => absurd c (by omega), fun _ => ⟨by omega, fun c => ⟨by omega, ih (r, if mx < u 129 (163 + 9 * i + w) then u 129 (163 + 9 * i + w) else mx) ?_⟩, fun c => ⟨by omega, ih (nI i, if mx < u 129 (163 + 9 * i + w) then u 129 (163 + 9 * i + w) else mx) ?_⟩⟩⟩
    · dsimp only
      rw [if_neg (Int32.not_lt.mpr c)]
      rcases hx with ⟨g1, g2, g3⟩ | ⟨b, g1, g2, g3, g4, g5, g6⟩
      · refine Or.inl ⟨g1, g2, fun s hs => ?_⟩
        rcases Nat.lt_or_ge s i with q | q
        · exact g3 s q
        · obtain rfl : s = i := by omega
          dsimp only at g2
          rw [← g2]; exact c
      · refine Or.inr ⟨b, by omega, g2, g3, g4, fun s hs => ?_, g6⟩
        rcases Nat.lt_or_ge s i with q | q
        · exact g5 s q
        · obtain rfl : s = i := by omega
          dsimp only at g3
          rw [g3] at c
          exact c
    · have c2 : mx < u 129 (163 + 9 * i + w) := Int32.not_le.mp c
      dsimp only
      rw [if_pos c2]
      rcases hx with ⟨g1, g2, g3⟩ | ⟨b, g1, g2, g3, g4, g5, g6⟩
      · dsimp only at g2
        subst g2
        refine Or.inr ⟨i, by omega, rfl, rfl, c2, fun s hs => ?_, fun s hs => Int32.lt_of_le_of_lt (g3 s hs) c2⟩
        rcases Nat.lt_or_ge s i with q | q
        · exact Int32.le_trans (g3 s q) (Int32.le_of_lt c2)
        · obtain rfl : s = i := by omega
          exact Int32.le_refl _
      · dsimp only at g3
        subst g3
        refine Or.inr ⟨i, by omega, rfl, rfl, Int32.lt_trans g4 c2, fun s hs => ?_, fun s hs => Int32.lt_of_le_of_lt (g5 s hs) c2⟩
        rcases Nat.lt_or_ge s i with q | q
        · exact Int32.le_trans (g5 s q) (Int32.le_of_lt c2)
        · obtain rfl : s = i := by omega
          exact Int32.le_refl _
theorem op_dogs : zAsk 150 312 [] := by
  intro u n hC
  have hD := hC.2.2.1
  have hn := hC.1.1.2
  have h8 := hC.1.1.1
  refine tX11_dogs ?_
  refine s_stepsWith (w := 8) rfl rfl (by decide) (hD.1.1.trans hn) h8 ⟨_, rfl, zSame.rf u, ?_⟩
  refine tX12_dogs (fun m1 e1 => ?_)
  have e2 : m1 129 = u 129 := by rw [e1]; exact zUp_k _ _ (by decide)
  refine s_thatHave (w := 8) (n := n) rfl (by decide) (by rw [e2]; exact hn) h8 ⟨_, rfl, ?_, by rw [e1]; exact zSame.m _ (by decide)⟩
  congr 2
  refine zor_congr n (fun s hs => ?_)
  rw [e2, hD.2.1 s 8 (by omega) (by omega)]
