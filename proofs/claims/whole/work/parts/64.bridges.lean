/-- the steps whose corners are in a set -/
def zSi (W : Nat → Int32) (n : Nat) (x : Int32) : Int32 := zor (fun s => tb x (cnN W s)) n
theorem s_reachedSteps {d n : Nat} {a1 a2 a3 : Int32} {u : zM} {Q : Option Value → zM → Prop} (hC : zCore u n) (h : Q (some (.int (zSi (u 129) n (rcX (rcE (rdN (u 129)) a1 a2 a3) (¬ a1 = 0))))) u) : zCall (d + 4) false 176 [.ref 0, .int a1, .int a2, .int a3] u Q := by
  have hR := hC.1
  have h8 := hR.1.1
  have hu : u 4 3 = nI n := hC.2.2.1.1.1.trans hR.1.2
  have hv0 : ∀ s, s < 8 → u 5 s = u 129 (163 + 9 * s) := fun s hs => by
    have := hC.2.2.1.2.1 s 0 hs (by decide)
    rwa [Nat.zero_mul, Nat.zero_add, Nat.add_zero] at this
  obtain ⟨x, hx⟩ : ∃ x, x = rcX (rcE (rdN (u 129)) a1 a2 a3) (¬ a1 = 0) := ⟨_, rfl⟩
  rw [← hx] at h
  refine tX11_reachedSteps ?_
  refine s_reach (R := rdN (u 129)) rfl (zRd_le hR) (fun a b ha hb => (hC.2.2.2.1 a b ha hb).trans (zRd_eq hR ha hb)) ⟨_, rfl, ?_⟩
  rw [← hx]
  refine zFor (σ := Int32) (Pr := fun i y => zRun (d + 3) false zcX11_reachedSteps 1 Q 21 [(0, .ref 0), (1, .int a1), (2, .int a2), (3, .int a3), (4, .int x), (5, .int y), (6, .int (nI i))] [] u) (fun i y => y = zor (fun s => tb x (cnN (u 129) s)) i) n (fun y hy => ?_) (fun i y hi hy ih => ?_) 0 rfl
  · refine tX11_reachedSteps_21 ⟨fun _ => by rw [hy]; exact h, fun q => absurd ?_ q⟩
    rw [hu]; exact Int32.le_refl _
  · have a0 : ((0 : Int32) * 8) + nI i = nI i := by rw [Int32.zero_mul, Int32.zero_add]
    have hc := cnN_lt (u 129) i
    refine tX11_reachedSteps_21 ?_
    rw [hu, a0, nI_clamp (n := i) (by omega), hv0 i (by omega), cnN_eq hR (by omega), tb_sh0 x (by omega), nI_1 i]
    refine ⟨fun q => absurd q (by rw [nI_leI (by omega) (by omega)]; omega), fun _ => ⟨vp_in_nI (by omega) (by decide), fun q => ih _ ?_, fun q => ih _ ?_⟩⟩
    · rw [hy]; conv => rhs; unfold zor
      rw [if_neg (by rw [q]; decide)]
    · rw [hy]; conv => rhs; unfold zor
      rw [if_pos (by simpa using q)]
theorem s_stepsIn {d n : Nat} {x : Int32} {u : zM} {Q : Option Value → zM → Prop} (hR : zRg (u 129) n) (h : Q (some (.int (zSi (u 129) n x))) u) : zCall (d + 3) false 285 [.ref 128, .int x] u Q := by
  have h8 := hR.1.1
  refine tX12_stepsIn ?_
  refine zFor (σ := Int32) (Pr := fun i y => zRun (d + 2) false zcX12_stepsIn 1 Q 4 [(0, .ref 128), (1, .int x), (2, .int y), (3, .int (nI i))] [] u) (fun i y => y = zor (fun s => tb x (cnN (u 129) s)) i) n (fun y hy => ?_) (fun i y hi hy ih => ?_) 0 rfl
  · refine tX12_stepsIn_4 ⟨fun _ => by rw [hy]; exact h, fun q => absurd ?_ q⟩
    rw [hR.1.2]; exact Int32.le_refl _
  · have a0 : (163 + (9 * nI i)) + 0 = nI (163 + 9 * i) := by rw [nI_lit, nI_lit, nI_mul, nI_add]; exact Int32.add_zero _
    have hc := cnN_lt (u 129) i
    refine tX12_stepsIn_4 ?_
    rw [hR.1.2, a0, nI_clamp (n := 163 + 9 * i) (by omega), cnN_eq hR (by omega), tb_sh1 x (by omega), nI_1 i, i_or0]
    refine ⟨fun q => absurd q (by rw [nI_leI (by omega) (by omega)]; omega), fun _ => ⟨vp_in_nI (by omega) (by decide), fun q => ih _ ?_, fun q => ih _ ?_⟩⟩
    · rw [hy]; conv => rhs; unfold zor
      rw [if_neg q]
    · rw [hy]; conv => rhs; unfold zor
      rw [if_pos q]
theorem op_cut (a : Int32) : zAskT 133 287 [.int a] [(2, 1)] := by
  intro u n hC
  have hR := hC.1
  have hu : u 4 3 = nI n := hC.2.2.1.1.1.trans hR.1.2
  rcases i_cases a 12 (by decide) with ⟨j, hj, rfl⟩ | hb
  · refine Or.inl ?_
    refine tX11_cut ⟨vp_in_nI hj (by decide), ?_⟩
    refine s_reachedSteps hC ⟨_, rfl, zSame.rf u, fun o => ?_⟩
    have hS := zSame.o (u := u) o
    have hC2 := hS.core hC
    refine tX12_cut (fun m1 e1 => ?_)
    have e9 : m1 129 = u 129 := by rw [e1, zUp_k _ _ (by decide), zUp_k _ _ (by decide)]
    refine ⟨fun q => absurd q (by rw [nI_lit, nI_ltI (by omega) (by omega)]; omega), fun _ => ⟨fun q => absurd q (by rw [nI_lit, nI_ltI (by omega) (by omega)]; omega), fun _ => ?_⟩⟩
    refine s_reached (R := rdN (u 129)) (zRd_le hR) (fun x y hx hy => by rw [e9]; exact zRd_eq hR hx hy) ⟨_, rfl, ?_⟩
    refine s_stepsIn (n := n) (by rw [e9]; exact hR) ⟨_, rfl, ?_, ?_, ?_⟩
    · rw [e9, hu, hR.1.2]
    · rw [e1]; exact zUp_at _ _ _ _
    · rw [e1]; exact hS.tr (zSame.m _ (by decide))
  · refine Or.inr ?_
    refine tTX11_cut (Or.inl ⟨hb, zSame.rf u, ?_⟩)
    refine tX12_cut (fun m1 e1 => ⟨fun _ => zThr e1 (by simp), fun q => ⟨fun _ => zThr e1 (by simp), fun q2 => absurd (i_lim (n := 11) (by decide) hb q) q2⟩⟩)
/-- pairs of corners a < b with a property -/
def zPrs (P : Nat → Nat → Bool) : Nat := dsum (fun a => zct (fun j => P a (a + 1 + j)) (11 - a)) 12
noncomputable def zBg (W : Nat → Int32) (n a b : Nat) : Bool := decide (0 < rdN W a b) && !decide (zSi W n (rcX (rcE (rdN W) (-1) (nI a) (nI b)) (¬ (-1 : Int32) = 0)) = zSi W n (rcX (rcE (rdN W) (-1) (-1) (-1)) (¬ (-1 : Int32) = 0)))
theorem m_bridges {n : Nat} {u : zM} (hC : zCore u n) : zCall 60 false 286 [.ref 128] u fun v2 w2 => v2 = some (.int (nI (zPrs (zBg (u 129) n)))) ∧ zSame u w2 := by
  have hR := hC.1
  refine tX12_bridges (fun m1 e1 => ?_)
  have e9 : m1 129 = u 129 := by rw [e1, zUp_k _ _ (by decide)]
  have fin : zSame u m1 := by rw [e1]; exact zSame.m _ (by decide)
  refine s_reached (R := rdN (u 129)) (zRd_le hR) (fun x y hx hy => by rw [e9]; exact zRd_eq hR hx hy) ⟨_, rfl, ?_⟩
  refine s_stepsIn (n := n) (by rw [e9]; exact hR) ⟨_, rfl, ?_⟩
  rw [e9]
  obtain ⟨B, hB⟩ : ∃ B, B = zSi (u 129) n (rcX (rcE (rdN (u 129)) (-1) (-1) (-1)) (¬ (-1 : Int32) = 0)) := ⟨_, rfl⟩
  rw [← hB]
  refine zFor (σ := Nat) (Pr := fun i x => zRun 59 false zcX12_bridges 1 _ 21 [(0, .ref 128), (1, .int B), (2, .int (nI x)), (3, .int (nI i))] [] m1) (fun i x => x = dsum (fun a => zct (fun j => zBg (u 129) n a (a + 1 + j)) (11 - a)) i) 12 (fun x hx => ?_) (fun i x hi hx ih => ?_) 0 rfl
  · exact tX12_bridges_21 ⟨fun _ => ⟨by rw [hx]; rfl, fin⟩, fun q => absurd (by decide) q⟩
  · refine tX12_bridges_21 ⟨fun q => absurd q (by rw [nI_lit, nI_leI (by omega) (by omega)]; omega), fun _ => ?_⟩
    rw [nI_1 i]
    refine zFor (σ := Nat) (Pr := fun j y => zRun 59 false zcX12_bridges 1 _ 32 [(0, .ref 128), (1, .int B), (2, .int (nI y)), (3, .int (nI i)), (4, .int (nI (i + 1 + j)))] [] m1) (fun j y => y = x + zct (fun j => zBg (u 129) n i (i + 1 + j)) j) (11 - i) (fun y hy => ?_) (fun j y hj hy ih2 => ?_) x rfl
    · refine tX12_bridges_32 ⟨fun _ => ?_, fun q => absurd ?_ q⟩
      · rw [nI_1 i]; exact ih y (by rw [hy, hx]; rfl)
      · rw [nI_lit, nI_leI (by omega) (by omega)]; omega
    · have ek : (11 + (12 * nI i)) + nI (i + 1 + j) = nI (11 + 12 * i + (i + 1 + j)) := by rw [nI_lit, nI_lit, nI_mul, nI_add, nI_add]
      have hr9 := zRd_le hR i (i + 1 + j)
      have no : ¬ zBg (u 129) n i (i + 1 + j) = true → y = x + zct (fun j => zBg (u 129) n i (i + 1 + j)) (j + 1) := fun q => by
        rw [hy]; conv => rhs; unfold zct
        rw [if_neg q]; rfl
      have e0 : nI y + 0 = nI y := Int32.add_zero _
      refine tX12_bridges_32 ?_
      rw [ek, e9, nI_clamp (n := 11 + 12 * i + (i + 1 + j)) (by omega), zRd_eq hR hi (by omega), e0, nI_1 (i + 1 + j), nI_1 y]
      refine ⟨fun q => absurd q (by rw [nI_lit, nI_leI (by omega) (by omega)]; omega), fun _ => ⟨vp_in_nI (by omega) (by decide), fun q => ih2 y (no ?_), fun q => ?_⟩⟩
      · rw [nI_lit, nI_leI (by omega) (by omega)] at q
        unfold zBg
        rw [decide_eq_false (by omega), Bool.false_and]; decide
      · rw [nI_lit, nI_leI (by omega) (by omega)] at q
        refine s_reached (R := rdN (u 129)) (zRd_le hR) (fun x y hx hy => by rw [e9]; exact zRd_eq hR hx hy) ⟨_, rfl, ?_⟩
        refine s_stepsIn (n := n) (by rw [e9]; exact hR) ⟨_, rfl, ?_⟩
        rw [e9]
        refine ⟨fun z => ih2 y (no ?_), fun z => ih2 (y + 1) ?_⟩
        · unfold zBg
          rw [← hB, z, decide_eq_true rfl, Bool.not_true, Bool.and_false]; decide
        · rw [hy]; conv => rhs; unfold zct
          rw [if_pos (by unfold zBg; rw [← hB, decide_eq_false z, decide_eq_true (by omega)]; rfl)]; rfl
theorem op_bridges : zAsk 132 286 [] := by
  intro u n hC
  have hR := hC.1
  refine tX11_bridges ?_
  refine s_reachedSteps hC ⟨_, rfl, ?_⟩
  obtain ⟨B, hB⟩ : ∃ B, B = zSi (u 129) n (rcX (rcE (rdN (u 129)) (-1) (-1) (-1)) (¬ (-1 : Int32) = 0)) := ⟨_, rfl⟩
  rw [← hB]
  refine zFor (σ := Nat) (Pr := fun i x => zRun 59 false zcX11_bridges 1 _ 12 [(0, .ref 0), (1, .int B), (2, .int (nI x)), (3, .int (nI i))] [] u) (fun i x => x = dsum (fun a => zct (fun j => zBg (u 129) n a (a + 1 + j)) (11 - a)) i) 12 (fun x hx => ?_) (fun i x hi hx ih => ?_) 0 rfl
  · exact tX11_bridges_12 ⟨fun _ => ⟨zSame.rf u, by rw [hx]; exact m_bridges hC⟩, fun q => absurd (by decide) q⟩
  · refine tX11_bridges_12 ⟨fun q => absurd q (by rw [nI_lit, nI_leI (by omega) (by omega)]; omega), fun _ => ?_⟩
    rw [nI_1 i]
    refine zFor (σ := Nat) (Pr := fun j y => zRun 59 false zcX11_bridges 1 _ 23 [(0, .ref 0), (1, .int B), (2, .int (nI y)), (3, .int (nI i)), (4, .int (nI (i + 1 + j)))] [] u) (fun j y => y = x + zct (fun j => zBg (u 129) n i (i + 1 + j)) j) (11 - i) (fun y hy => ?_) (fun j y hj hy ih2 => ?_) x rfl
    · refine tX11_bridges_23 ⟨fun _ => ?_, fun q => absurd ?_ q⟩
      · rw [nI_1 i]; exact ih y (by rw [hy, hx]; rfl)
      · rw [nI_lit, nI_leI (by omega) (by omega)]; omega
    · have ek : (nI i * 12) + nI (i + 1 + j) = nI (i * 12 + (i + 1 + j)) := by rw [nI_lit, nI_mul, nI_add]
      have hr9 := zRd_le hR i (i + 1 + j)
      have no : ¬ zBg (u 129) n i (i + 1 + j) = true → y = x + zct (fun j => zBg (u 129) n i (i + 1 + j)) (j + 1) := fun q => by
        rw [hy]; conv => rhs; unfold zct
        rw [if_neg q]; rfl
      refine tX11_bridges_23 ?_
      rw [ek, nI_clamp (n := i * 12 + (i + 1 + j)) (by omega), (hC.2.2.2.1 i (i + 1 + j) hi (by omega)).trans (zRd_eq hR hi (by omega)), nI_1 (i + 1 + j), nI_1 y]
      refine ⟨fun q => absurd q (by rw [nI_lit, nI_leI (by omega) (by omega)]; omega), fun _ => ⟨vp_in_nI (by omega) (by decide), vp_in_nI (by omega) (by decide), fun q => ih2 y (no ?_), fun q => ?_⟩⟩
      · rw [nI_lit, nI_leI (by omega) (by omega)] at q
        unfold zBg
        rw [decide_eq_false (by omega), Bool.false_and]; decide
      · rw [nI_lit, nI_leI (by omega) (by omega)] at q
        refine s_reachedSteps hC ⟨_, rfl, ?_⟩
        refine ⟨fun z => ih2 y (no ?_), fun z => ih2 (y + 1) ?_⟩
        · unfold zBg
          rw [← hB, z, decide_eq_true rfl, Bool.not_true, Bool.and_false]; decide
        · rw [hy]; conv => rhs; unfold zct
          rw [if_pos (by unfold zBg; rw [← hB, decide_eq_false z, decide_eq_true (by omega)]; rfl)]; rfl
