theorem i_bad {a : Int32} {n : Nat} (hn : n < 1000) (h : a < 0 ∨ nI (n + 1) ≤ a) : a.toInt < 0 ∨ (n : Int) < a.toInt := by
  rcases h with q | q
  · exact Or.inl (by simpa [Int32.lt_iff_toInt_lt] using q)
  · refine Or.inr ?_
    have : (nI (n + 1)).toInt ≤ a.toInt := Int32.le_iff_toInt_le.mp q
    have e : (nI (n + 1)).toInt = ((n + 1 : Nat) : Int) := nI_toInt (by omega)
    omega
def zAskP (P : zM → Prop) (x m : Nat) (as : List Value) : Prop := ∀ u n, zCore u n → P u → zCall 60 false x (.ref 0 :: as) u fun v w => zSame u w ∧ zCall 60 false m (.ref 128 :: as) w fun v2 w2 => v2 = v ∧ zSame w w2
/-- what count asks besides the world: the lines of the law and the acts that can be undone -/
def zCnt (u : zM) : Prop := u 12 6 = (if u 129 2 = 1 then u 129 475 else -1) ∧ u 0 7 = u 128 7
theorem m_cnt {n j : Nat} {u : zM} (hC : zCore u n) (h1 : j ≤ 8) (h2 : j ≠ 2) : zCall 60 false 325 [.ref 128, .int (nI j)] u fun v2 w2 => v2 = some (.int (u 129 j)) ∧ zSame u w2 := by
  refine m_count hC (fun m1 e1 => ?_)
  have e2 : m1 129 = u 129 := by rw [e1]; exact zUp_k _ _ (by decide)
  have fin : zSame u m1 := by rw [e1]; exact zSame.m _ (by decide)
  have t : (nI j).toInt = (j : Int) := nI_toInt (by omega)
  have core : (nI j < 0 → some (Value.int (-1)) = some (Value.int (u 129 j)) ∧ zSame u m1) ∧ (¬ nI j < 0 → ((8 < nI j → some (Value.int (-1)) = some (Value.int (u 129 j)) ∧ zSame u m1) ∧ (¬ 8 < nI j → (vp_in (nI j) 2173 ∧ (some (Value.int (m1 129 (nI j).toNatClampNeg)) = some (Value.int (u 129 j)) ∧ zSame u m1))))) :=
    ⟨fun q => absurd q (nI_pos (by omega)), fun _ => ⟨fun q => absurd q (by rw [nI_lit, nI_ltI (by omega) (by omega)]; omega), fun _ => ⟨vp_in_nI (by omega) (by decide), by rw [nI_clamp (by omega), e2], fin⟩⟩⟩
  refine tX12_count_9 ⟨fun _ => ⟨fun _ => core, fun q => absurd q (by rw [t]; omega), fun _ => core, fun _ => core, fun _ => core, fun _ => core, fun _ => core, fun _ => core, fun q => absurd q (by rw [t]; omega), fun q => absurd q (by rw [t]; omega), fun q => absurd q (by rw [t]; omega), fun q => absurd q (by rw [t]; omega), fun q => absurd q (by rw [t]; omega), trivial⟩, fun q => absurd (Int32.le_refl _) q⟩
theorem op_count (a : Int32) : zAskP zCnt 162 325 [.int a] := by
  intro u n hC hP
  have h8 := hC.1.1.1
  have hn := hC.1.1.2
  have hD := hC.2.2.1
  have hu : u 4 3 = nI n := hD.1.1.trans hn
  obtain ⟨L, N, h60, hN60, hL, hN, hW, hc⟩ := hD.2.2.2
  rcases i_cases a 14 (by decide) with ⟨j, hj, rfl⟩ | hb
  · have t : (nI j).toInt = (j : Int) := nI_toInt (by omega)
    rcases (by omega : j = 0 ∨ j = 1 ∨ j = 2 ∨ j = 3 ∨ j = 4 ∨ j = 5 ∨ j = 6 ∨ j = 7 ∨ j = 8 ∨ j = 9 ∨ j = 10 ∨ j = 11 ∨ j = 12 ∨ j = 13) with e | e | e | e | e | e | e | e | e | e | e | e | e | e <;> subst e
    · have v : u 4 3 = u 129 0 := hD.1.1
      have D : zSame u u ∧ zCall 60 false 325 [.ref 128, .int (nI 0)] u fun v2 w2 => v2 = some (.int (u 4 3)) ∧ zSame u w2 := ⟨zSame.rf u, by rw [v]; exact m_cnt hC (by decide) (by decide)⟩
      refine tX11_count ⟨?_, fun _ => D, ?_, ?_, ?_, ?_, ?_, ?_, ?_, ?_, ?_, ?_, ?_, ?_, ?_, trivial⟩ <;> exact fun q => absurd q (by rw [t]; omega)
    · have v : u 4 4 = u 129 1 := hD.1.2.1
      have D : zSame u u ∧ zCall 60 false 325 [.ref 128, .int (nI 1)] u fun v2 w2 => v2 = some (.int (u 4 4)) ∧ zSame u w2 := ⟨zSame.rf u, by rw [v]; exact m_cnt hC (by decide) (by decide)⟩
      refine tX11_count ⟨?_, ?_, fun _ => D, ?_, ?_, ?_, ?_, ?_, ?_, ?_, ?_, ?_, ?_, ?_, ?_, trivial⟩ <;> exact fun q => absurd q (by rw [t]; omega)
    · have D : zSame u u ∧ zCall 60 false 325 [.ref 128, .int (nI 2)] u fun v2 w2 => v2 = some (.int (u 12 6)) ∧ zSame u w2 := ⟨zSame.rf u, by
        refine m_count hC (fun m1 e1 => ?_)
        have e2 : m1 129 = u 129 := by rw [e1]; exact zUp_k _ _ (by decide)
        have fin : zSame u m1 := by rw [e1]; exact zSame.m _ (by decide)
        refine tX12_count_9 ⟨fun _ => ⟨?_, fun _ => ⟨fun q => ⟨?_, fin⟩, fun q => ⟨?_, fin⟩⟩, ?_, ?_, ?_, ?_, ?_, ?_, ?_, ?_, ?_, ?_, ?_, trivial⟩, fun q => absurd (Int32.le_refl _) q⟩
        any_goals exact fun q => absurd q (by rw [t]; omega)
        · rw [e2] at q; rw [hP.1, if_neg q]
        · rw [e2] at q ⊢; rw [hP.1, if_pos q]⟩
      refine tX11_count ⟨?_, ?_, ?_, fun _ => D, ?_, ?_, ?_, ?_, ?_, ?_, ?_, ?_, ?_, ?_, ?_, trivial⟩ <;> exact fun q => absurd q (by rw [t]; omega)
    · have v : u 4 10 = u 129 3 := hD.1.2.2.2.2.2.2.2.1
      have D : zSame u u ∧ zCall 60 false 325 [.ref 128, .int (nI 3)] u fun v2 w2 => v2 = some (.int (u 4 10)) ∧ zSame u w2 := ⟨zSame.rf u, by rw [v]; exact m_cnt hC (by decide) (by decide)⟩
      refine tX11_count ⟨?_, ?_, ?_, ?_, fun _ => D, ?_, ?_, ?_, ?_, ?_, ?_, ?_, ?_, ?_, ?_, trivial⟩ <;> exact fun q => absurd q (by rw [t]; omega)
    · have v : u 4 5 = u 129 4 := hD.1.2.2.1
      have D : zSame u u ∧ zCall 60 false 325 [.ref 128, .int (nI 4)] u fun v2 w2 => v2 = some (.int (u 4 5)) ∧ zSame u w2 := ⟨zSame.rf u, by rw [v]; exact m_cnt hC (by decide) (by decide)⟩
      refine tX11_count ⟨?_, ?_, ?_, ?_, ?_, fun _ => D, ?_, ?_, ?_, ?_, ?_, ?_, ?_, ?_, ?_, trivial⟩ <;> exact fun q => absurd q (by rw [t]; omega)
    · have v : u 4 6 = u 129 5 := hD.1.2.2.2.1
      have D : zSame u u ∧ zCall 60 false 325 [.ref 128, .int (nI 5)] u fun v2 w2 => v2 = some (.int (u 4 6)) ∧ zSame u w2 := ⟨zSame.rf u, by rw [v]; exact m_cnt hC (by decide) (by decide)⟩
      refine tX11_count ⟨?_, ?_, ?_, ?_, ?_, ?_, fun _ => D, ?_, ?_, ?_, ?_, ?_, ?_, ?_, ?_, trivial⟩ <;> exact fun q => absurd q (by rw [t]; omega)
    · have v : u 4 7 = u 129 6 := hD.1.2.2.2.2.1
      have D : zSame u u ∧ zCall 60 false 325 [.ref 128, .int (nI 6)] u fun v2 w2 => v2 = some (.int (u 4 7)) ∧ zSame u w2 := ⟨zSame.rf u, by rw [v]; exact m_cnt hC (by decide) (by decide)⟩
      refine tX11_count ⟨?_, ?_, ?_, ?_, ?_, ?_, ?_, fun _ => D, ?_, ?_, ?_, ?_, ?_, ?_, ?_, trivial⟩ <;> exact fun q => absurd q (by rw [t]; omega)
    · have v : u 4 8 = u 129 7 := hD.1.2.2.2.2.2.1
      have D : zSame u u ∧ zCall 60 false 325 [.ref 128, .int (nI 7)] u fun v2 w2 => v2 = some (.int (u 4 8)) ∧ zSame u w2 := ⟨zSame.rf u, by rw [v]; exact m_cnt hC (by decide) (by decide)⟩
      refine tX11_count ⟨?_, ?_, ?_, ?_, ?_, ?_, ?_, ?_, fun _ => D, ?_, ?_, ?_, ?_, ?_, ?_, trivial⟩ <;> exact fun q => absurd q (by rw [t]; omega)
    · have v : u 4 9 = u 129 8 := hD.1.2.2.2.2.2.2.1
      have D : zSame u u ∧ zCall 60 false 325 [.ref 128, .int (nI 8)] u fun v2 w2 => v2 = some (.int (u 4 9)) ∧ zSame u w2 := ⟨zSame.rf u, by rw [v]; exact m_cnt hC (by decide) (by decide)⟩
      refine tX11_count ⟨?_, ?_, ?_, ?_, ?_, ?_, ?_, ?_, ?_, fun _ => D, ?_, ?_, ?_, ?_, ?_, trivial⟩ <;> exact fun q => absurd q (by rw [t]; omega)
    · refine tX11_count ⟨?_, ?_, ?_, ?_, ?_, ?_, ?_, ?_, ?_, ?_, fun _ => s_roads hC ⟨_, rfl, zSame.rf u, ?_⟩, ?_, ?_, ?_, ?_, trivial⟩
      any_goals exact fun q => absurd q (by rw [t]; omega)
      refine m_count hC (fun m1 e1 => ?_)
      have fin : zSame u m1 := by rw [e1]; exact zSame.m _ (by decide)
      refine tX12_count_9 ⟨fun _ => ⟨?_, ?_, ?_, ?_, ?_, ?_, ?_, ?_, fun _ => ⟨rfl, fin⟩, ?_, ?_, ?_, ?_, trivial⟩, fun q => absurd (Int32.le_refl _) q⟩ <;> exact fun q => absurd q (by rw [t]; omega)
    · refine tX11_count ⟨?_, ?_, ?_, ?_, ?_, ?_, ?_, ?_, ?_, ?_, ?_, fun _ => s_sum (w := 3) rfl rfl (by decide) hu h8 ⟨_, rfl, zSame.rf u, ?_⟩, ?_, ?_, ?_, trivial⟩
      any_goals exact fun q => absurd q (by rw [t]; omega)
      refine m_count hC (fun m1 e1 => ?_)
      have e2 : m1 129 = u 129 := by rw [e1]; exact zUp_k _ _ (by decide)
      have fin : zSame u m1 := by rw [e1]; exact zSame.m _ (by decide)
      refine tX12_count_9 ⟨fun _ => ⟨?_, ?_, ?_, ?_, ?_, ?_, ?_, ?_, ?_, fun _ => s_sumOf (w := 3) rfl (by decide) (by rw [e2]; exact hn) h8 ⟨_, rfl, ?_, fin⟩, ?_, ?_, ?_, trivial⟩, fun q => absurd (Int32.le_refl _) q⟩
      any_goals exact fun q => absurd q (by rw [t]; omega)
      exact congrArg (fun x => some (Value.int x)) (zsm_congr n (fun s hs => by rw [e2]; exact (hD.2.1 s 3 (by omega) (by decide)).symm))
    · refine tX11_count ⟨?_, ?_, ?_, ?_, ?_, ?_, ?_, ?_, ?_, ?_, ?_, ?_, fun _ => s_sum (w := 4) rfl rfl (by decide) hu h8 ⟨_, rfl, zSame.rf u, ?_⟩, ?_, ?_, trivial⟩
      any_goals exact fun q => absurd q (by rw [t]; omega)
      refine m_count hC (fun m1 e1 => ?_)
      have e2 : m1 129 = u 129 := by rw [e1]; exact zUp_k _ _ (by decide)
      have fin : zSame u m1 := by rw [e1]; exact zSame.m _ (by decide)
      refine tX12_count_9 ⟨fun _ => ⟨?_, ?_, ?_, ?_, ?_, ?_, ?_, ?_, ?_, ?_, fun _ => s_sumOf (w := 4) rfl (by decide) (by rw [e2]; exact hn) h8 ⟨_, rfl, ?_, fin⟩, ?_, ?_, trivial⟩, fun q => absurd (Int32.le_refl _) q⟩
      any_goals exact fun q => absurd q (by rw [t]; omega)
      exact congrArg (fun x => some (Value.int x)) (zsm_congr n (fun s hs => by rw [e2]; exact (hD.2.1 s 4 (by omega) (by decide)).symm))
    · refine tX11_count ⟨?_, ?_, ?_, ?_, ?_, ?_, ?_, ?_, ?_, ?_, ?_, ?_, ?_, fun _ => ⟨zSame.rf u, ?_⟩, ?_, trivial⟩
      any_goals exact fun q => absurd q (by rw [t]; omega)
      refine m_count hC (fun m1 e1 => ?_)
      have e2 : m1 129 = u 129 := by rw [e1]; exact zUp_k _ _ (by decide)
      have fin : zSame u m1 := by rw [e1]; exact zSame.m _ (by decide)
      refine tX12_count_9 ⟨fun _ => ⟨?_, ?_, ?_, ?_, ?_, ?_, ?_, ?_, ?_, ?_, ?_, fun _ => ⟨by rw [e2, hL, hW], fin⟩, ?_, trivial⟩, fun q => absurd (Int32.le_refl _) q⟩ <;> exact fun q => absurd q (by rw [t]; omega)
    · refine tX11_count ⟨?_, ?_, ?_, ?_, ?_, ?_, ?_, ?_, ?_, ?_, ?_, ?_, ?_, ?_, fun _ => ⟨zSame.rf u, ?_⟩, trivial⟩
      any_goals exact fun q => absurd q (by rw [t]; omega)
      refine m_count hC (fun m1 e1 => ?_)
      have fin : zSame u m1 := by rw [e1]; exact zSame.m _ (by decide)
      refine tX12_count_9 ⟨fun _ => ⟨?_, ?_, ?_, ?_, ?_, ?_, ?_, ?_, ?_, ?_, ?_, ?_, fun _ => ⟨by rw [hP.2, fin.2.1.2.1], fin⟩, trivial⟩, fun q => absurd (Int32.le_refl _) q⟩ <;> exact fun q => absurd q (by rw [t]; omega)
  · have t := i_bad (n := 13) (by decide) hb
    have g8 : ¬ a < 0 → (8 : Int32) < a := fun q => Int32.lt_of_lt_of_le (by decide) (hb.resolve_left q)
    refine tX11_count ⟨fun _ => ⟨zSame.rf u, ?_⟩, ?_, ?_, ?_, ?_, ?_, ?_, ?_, ?_, ?_, ?_, ?_, ?_, ?_, ?_, trivial⟩
    any_goals exact fun q => absurd q (by omega)
    refine m_count hC (fun m1 e1 => ?_)
    have fin : zSame u m1 := by rw [e1]; exact zSame.m _ (by decide)
    refine tX12_count_9 ⟨fun _ => ⟨fun _ => ⟨fun _ => ⟨rfl, fin⟩, fun q => ⟨fun _ => ⟨rfl, fin⟩, fun r => absurd (g8 q) r⟩⟩, ?_, ?_, ?_, ?_, ?_, ?_, ?_, ?_, ?_, ?_, ?_, ?_, trivial⟩, fun q => absurd (Int32.le_refl _) q⟩ <;> exact fun q => absurd q (by omega)
