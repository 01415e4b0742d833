theorem zSame.o {u : zM} (o : Int32) : zSame u (zUp u 142 0 o) := zSame.row (k := 142) (by decide) (by decide) (by decide) (fun c hc => zUp_k _ _ hc)
theorem zSame.core {u w : zM} {n : Nat} (h : zSame u w) (hC : zCore u n) : zCore w n := hC.congr h.1
theorem zSame.mm {u : zM} {i j : Nat} (v x : Int32) (hi : i ≠ 6 ∧ i ≠ 7 ∧ i ≠ 10 ∧ i ≠ 15) (hj : j ≠ 6 ∧ j ≠ 7 ∧ j ≠ 10 ∧ j ≠ 15) : zSame u (zUp (zUp u 128 i v) 128 j x) := (zSame.m v hi).tr (zSame.m x hj)
theorem i_cases (a : Int32) (n : Nat) (hn : n < 2 ^ 31) : (∃ j, j < n ∧ a = nI j) ∨ (a < 0 ∨ nI n ≤ a) := by
  by_cases h : a < 0
  · exact Or.inr (Or.inl h)
  · obtain ⟨j, hj, rfl⟩ := nI_of h
    rcases Nat.lt_or_ge j n with q | q
    · exact Or.inl ⟨j, q, rfl⟩
    · exact Or.inr (Or.inr (nI_le q hj))
theorem op_foil (a : Int32) : zAskT 149 311 [.int a] [(2, 1)] := by
  intro u n hC
  have hD := hC.2.2.1
  have hn := hC.1.1.2
  have h8 := hC.1.1.1
  rcases i_cases a 4 (by decide) with ⟨j, hj, rfl⟩ | hout
  · refine Or.inl (tX11_foil ⟨vp_in_nI hj (by decide), ?_⟩)
    refine s_stepsWith (w := 1) rfl rfl (by decide) (hD.1.1.trans hn) h8 ⟨_, rfl, zSame.rf u, fun o => ?_⟩
    refine tX12_foil (fun m1 e1 => ?_)
    have e2 : m1 129 = u 129 := by rw [e1, zUp_k _ _ (by decide), zUp_k _ _ (by decide)]
    refine ⟨fun c => absurd c (nI_pos (by omega)), fun _ => ⟨fun c => absurd c (by rw [nI_lit, nI_ltI (by omega) (by omega)]; omega), fun _ => ?_⟩⟩
    refine s_thatHave (w := 1) (n := n) rfl (by decide) (by rw [e2]; exact hn) h8 ⟨_, rfl, ?_, by rw [e1]; exact zUp_at _ _ _ _, by rw [e1]; exact (zSame.o o).tr (zSame.m _ (by decide))⟩
    congr 2
    refine zor_congr n (fun s hs => ?_)
    rw [e2, hD.2.1 s 1 (by omega) (by omega)]
  · refine Or.inr (tTX11_foil (Or.inl ⟨hout, zSame.rf u, ?_⟩))
    refine tX12_foil (fun m1 e1 => ⟨fun c => ⟨by rw [e1]; exact zSame.mm _ _ (by decide) (by decide), 2, 1, rfl, by decide, by rw [zUp_at]⟩, fun c => ⟨fun c2 => ⟨by rw [e1]; exact zSame.mm _ _ (by decide) (by decide), 2, 1, rfl, by decide, by rw [zUp_at]⟩, fun c2 => absurd (hout.resolve_left c) ?_⟩⟩)
    intro c3
    exact c2 (Int32.lt_of_lt_of_le (by decide) c3)
theorem op_noted (a : Int32) : zAskT 151 313 [.int a] [(2, 1)] := by
  intro u n hC
  have hD := hC.2.2.1
  have hn := hC.1.1.2
  have h8 := hC.1.1.1
  rcases i_cases a 7 (by decide) with ⟨j, hj, rfl⟩ | hout
  · refine Or.inl (tX11_noted ⟨vp_in_nI hj (by decide), ?_⟩)
    refine s_stepsWith (w := 7) rfl rfl (by decide) (hD.1.1.trans hn) h8 ⟨_, rfl, zSame.rf u, fun o => ?_⟩
    refine tX12_noted (fun m1 e1 => ?_)
    have e2 : m1 129 = u 129 := by rw [e1, zUp_k _ _ (by decide), zUp_k _ _ (by decide)]
    refine ⟨fun c => absurd c (nI_pos (by omega)), fun _ => ⟨fun c => absurd c (by rw [nI_lit, nI_ltI (by omega) (by omega)]; omega), fun _ => ?_⟩⟩
    refine s_thatHave (w := 7) (n := n) rfl (by decide) (by rw [e2]; exact hn) h8 ⟨_, rfl, ?_, by rw [e1]; exact zUp_at _ _ _ _, by rw [e1]; exact (zSame.o o).tr (zSame.m _ (by decide))⟩
    congr 2
    refine zor_congr n (fun s hs => ?_)
    rw [e2, hD.2.1 s 7 (by omega) (by omega)]
  · refine Or.inr (tTX11_noted (Or.inl ⟨hout, zSame.rf u, ?_⟩))
    refine tX12_noted (fun m1 e1 => ⟨fun c => ⟨by rw [e1]; exact zSame.mm _ _ (by decide) (by decide), 2, 1, rfl, by decide, by rw [zUp_at]⟩, fun c => ⟨fun c2 => ⟨by rw [e1]; exact zSame.mm _ _ (by decide) (by decide), 2, 1, rfl, by decide, by rw [zUp_at]⟩, fun c2 => absurd (hout.resolve_left c) ?_⟩⟩)
    intro c3
    exact c2 (Int32.lt_of_lt_of_le (by decide) c3)
theorem op_rich : zAsk 153 316 [] := by
  intro u n hC
  have hD := hC.2.2.1
  have hn := hC.1.1.2
  have h8 := hC.1.1.1
  refine tX11_rich ?_
  refine s_stepOfMost (w := 2) rfl rfl (by decide) (hD.1.1.trans hn) h8 (fun r hr => ⟨_, rfl, zSame.rf u, ?_⟩)
  refine tX12_rich (fun m1 e1 => ?_)
  have e2 : m1 129 = u 129 := by rw [e1]; exact zUp_k _ _ (by decide)
  refine s_mostOf (w := 2) (n := n) rfl (by decide) (by rw [e2]; exact hn) h8 (fun r2 mx hr2 => ⟨_, rfl, ?_, by rw [e1]; exact zSame.m _ (by decide)⟩)
  rw [e2] at hr2
  congr 2
  have hv : ∀ s, s < n → u 5 (2 * 8 + s) = u 129 (163 + 9 * s + 2) := fun s hs => hD.2.1 s 2 (by omega) (by omega)
  have hp : ∀ s, s < n → (-1 : Int32) < u 129 (163 + 9 * s + 2) := fun s hs => by
    obtain ⟨c, hc, e⟩ := hC.1.2.2.2.2.2.2.2.2.2.2.2.2.2.2.1 s 2 (by omega) (by omega) (by decide)
    rw [e, Int32.lt_iff_toInt_lt, nI_toInt (Nat.lt_of_le_of_lt hc (by decide))]
    have : (-1 : Int32).toInt = -1 := by decide
    omega
  rcases hr2 with ⟨g1, g2, g3⟩ | ⟨b, g1, g2, -, g4, g5, g6⟩
  · rcases hr with ⟨f1, f2⟩ | ⟨b, f1, -⟩
    · rw [g1, f2]
    · exact absurd (g3 b f1) (Int32.not_le.mpr (hp b f1))
  · rcases hr with ⟨f1, f2⟩ | ⟨b2, f1, f2, f3, f4⟩
    · omega
    · have : b = b2 := by
        rcases Nat.lt_trichotomy b b2 with q | q | q
        · have h1 := f4 b q
          have h2 := g5 b2 f1
          dsimp only at h1 h2
          rw [hv b (by omega), hv b2 f1] at h1
          exact absurd h1 (Int32.not_lt.mpr h2)
        · exact q
        · have h1 := g6 b2 q
          have h2 := f3 b g1
          dsimp only at h1 h2
          rw [hv b g1, hv b2 f1] at h2
          exact absurd h1 (Int32.not_lt.mpr h2)
      rw [g2, f2, this]
theorem op_thirsty : zAsk 152 315 [] := by
  intro u n hC
  have hD := hC.2.2.1
  have hn := hC.1.1.2
  have h8 := hC.1.1.1
  have hv : ∀ s, s < n → u 5 (6 * 8 + s) = u 129 (163 + 9 * s + 6) := fun s hs => hD.2.1 s 6 (by omega) (by omega)
  have key : ∀ r : Int32, ((r = -1 ∧ ∀ s, s < n → u 129 (163 + 9 * s + 6) ≤ 0) ∨ ∃ b, b < n ∧ r = nI b ∧ 0 < u 129 (163 + 9 * b + 6) ∧ (∀ s, s < n → u 129 (163 + 9 * s + 6) ≤ u 129 (163 + 9 * b + 6)) ∧ ∀ s, s < b → u 129 (163 + 9 * s + 6) < u 129 (163 + 9 * b + 6)) → zCall 60 false 315 [.ref 128] u fun v2 w2 => v2 = some (.int r) ∧ zSame u w2 := by
    intro r hr
    refine tX12_thirsty (fun m1 e1 => ?_)
    have e2 : m1 129 = u 129 := by rw [e1]; exact zUp_k _ _ (by decide)
    refine s_mostOf (w := 6) (n := n) rfl (by decide) (by rw [e2]; exact hn) h8 (fun r2 mx hr2 => ⟨_, rfl, ?_, by rw [e1]; exact zSame.m _ (by decide)⟩)
    rw [e2] at hr2
    congr 2
    rcases hr2 with ⟨g1, g2, g3⟩ | ⟨b, g1, g2, -, g4, g5, g6⟩
    · rcases hr with ⟨f1, f2⟩ | ⟨b, f1, f2, f3, -⟩
      · rw [g1, f1]
      · exact absurd (g3 b f1) (Int32.not_le.mpr f3)
    · rcases hr with ⟨f1, f2⟩ | ⟨b2, f1, f2, f3, f4, f5⟩
      · exact absurd g4 (Int32.not_lt.mpr (f2 b g1))
      · have : b = b2 := by
          rcases Nat.lt_trichotomy b b2 with q | q | q
          · exact absurd (f5 b q) (Int32.not_lt.mpr (g5 b2 f1))
          · exact q
          · exact absurd (g6 b2 q) (Int32.not_lt.mpr (f4 b g1))
        rw [g2, f2, this]
  refine tX11_thirsty ?_
  refine s_stepOfMost (w := 6) rfl rfl (by decide) (hD.1.1.trans hn) h8 (fun r hr => ⟨_, rfl, ?_⟩)
  rcases hr with ⟨rfl, rfl⟩ | ⟨b, f1, rfl, f3, f4⟩
  · refine ⟨fun _ => ⟨zSame.rf u, key _ (Or.inl ⟨rfl, fun s hs => absurd hs (Nat.not_lt_zero _)⟩)⟩, fun c => absurd rfl c⟩
  · refine ⟨fun c => absurd c (nI_m1 (by omega)), fun _ => ?_⟩
    have e : (((6 : Int32) * 8) + nI b) = nI (6 * 8 + b) := by rw [nI_lit, nI_lit, nI_mul, nI_add]
    rw [e, nI_clamp (by omega), hv b f1]
    refine ⟨vp_in_nI (by omega) (by decide), fun c => ⟨zSame.rf u, key _ (Or.inl ⟨rfl, fun s hs => ?_⟩)⟩, fun c => ⟨zSame.rf u, key _ (Or.inr ⟨b, f1, rfl, Int32.not_le.mp c, fun s hs => ?_, fun s hs => ?_⟩)⟩⟩
    · have := f3 s hs
      dsimp only at this
      rw [hv s hs, hv b f1] at this
      exact Int32.le_trans this c
    · have := f3 s hs
      dsimp only at this
      rwa [hv s hs, hv b f1] at this
    · have := f4 s hs
      dsimp only at this
      rwa [hv s (by omega), hv b f1] at this
